/-! contracts of methods over the abstract memory, and calls -/
def Ev (h : Nat) (d : MD) (as : List Value) (M : Mem) (r : Option Value) (M' : Mem) : Prop :=
  mE M M' ∧ (mN M' < mBig → ∀ (l : Launch) (D : va_G) (cy : Nat → ClassId) (ba : Nat) (sp : Nat → Nat), Met l d.1 (wsm d) (rmv h (mN M' - mN M) (mS M' - mS M))
    (va_Pc (as.map (cv (adf ba sp))) (fun U => U.heap.size = ba + mN M ∧ va_P D vwCl (mW cy (adf ba sp) M) U.heap ∧ va_K D vwCl (mT cy) U ∧ va_D (fun _ => True) (mW cy (adf ba sp) M) ∧ SPC ba sp (va_A (mW cy (adf ba sp) M) (ba + mN M)) U))
    (mQ D cy (va_A (mW cy (adf ba sp) M) (ba + mN M)) ba sp r M') (mN M' - mN M) (mS M' - mS M) (va_A (mW cy (adf ba sp) M) (ba + mN M)))
/-- called with as at M, the method answers, and Q is so of its answer and the memory behind it -/
def E (h : Nat) (d : MD) (as : List Value) (M : Mem) (Q : Option Value → Mem → Prop) : Prop := ∃ (r : Option Value) (M' : Mem), Ev h d as M r M' ∧ Q r M'
theorem E.imp {h : Nat} {d : MD} {as : List Value} {M : Mem} {P Q : Option Value → Mem → Prop} (k : E h d as M P) (hPQ : ∀ r M', mE M M' → P r M' → Q r M') : E h d as M Q := by
  obtain ⟨r, M', hv, hq⟩ := k
  exact ⟨r, M', hv, hPQ r M' hv.1 hq⟩
theorem lv_args_cv (ad : Nat → Nat) : ∀ (vs : List Value) (n : Nat), lv_args n (vs.map (cv ad)) = lm ad (lv_args n vs) := by
  intro vs
  induction vs with
  | nil => intro n; rfl
  | cons v vs ih =>
    intro n
    show lv_args n (cv ad v :: vs.map (cv ad)) = lm ad (lv_args n (v :: vs))
    simp only [lv_args, lm, List.map_cons, cv_cat]
    rw [ih]
    rfl
theorem lg_sl_cv (ad : Nat → Nat) (vs : List Value) : (lg_sl (vs.map (cv ad))).length = (lg_sl vs).length := by
  induction vs with
  | nil => rfl
  | cons v vs ih =>
    simp only [lg_sl, List.map_cons, List.flatMap_cons, List.length_append, cv_cat] at ih ⊢
    rw [ih]
    by_cases hc : v.category = 2
    · rw [if_pos hc, if_pos hc]; rfl
    · rw [if_neg hc, if_neg hc]; rfl
theorem va_D.self2 {ws : va_W} {sz : Nat} (h : va_D (fun _ => True) ws) : va_D (va_A ws sz) ws := ⟨h.1, fun k q hk => Or.inl ⟨k, q.2, hk⟩⟩
theorem E.of {h : Nat} {d : MD} {as : List Value} {M : Mem} {Q : Option Value → Mem → Prop} (hp : plainName d.1.cls = true) (hlen : (lg_sl as).length ≤ d.2.2.1) (hX : ∀ s A sp, d.2.2.2.2 s A sp) (k : T h d 0 (lv_args 0 as) [] M Q) : E h d as M Q := by
  obtain ⟨r, M', hv, hq⟩ := k
  refine ⟨r, M', ⟨hv.1, fun hb l D cy ba sp => ?_⟩, hq⟩
  refine Met.ofW (cc := d.2.1) (maxL := d.2.2.1) (ret := d.2.2.2.1) hp rfl ?_
  intro p e s m args below meth c s₁ B hml hvv
  obtain ⟨rfl, hsz, hP, hK, hD0, hsp⟩ := hvv
  have hts := atoms_spec (ws := wsm d) B.pre
  have hown : s.vm.findClass d.1.cls = some m.cls := findClass_of_methodNamed B.named
  have hin : meth.name = d.1.name := (name_of_methodNamed B.named B.method).1
  have hl := lv_entry (as.map (cv (adf ba sp))) (n := d.2.2.1) (by rw [lg_sl_cv]; exact hlen)
  rw [lg_entry_eq]
  generalize (lg_sl (as.map (cv (adf ba sp))) ++ List.replicate (d.2.2.1 - (lg_sl (as.map (cv (adf ba sp)))).length) Slot.unset).toArray = ls at hl ⊢
  rw [lv_args_cv] at hl
  have hA2 : ∀ q, va_A (mW cy (adf ba sp) M) (ba + mN M) q → ba ≤ q := by
    intro q hq
    rcases hq with ⟨k, en, hk⟩ | hq
    · have hk2 : k < mN M := by
        have := (List.getElem?_eq_some_iff.mp hk).1
        rw [mW_len] at this; exact this
      rw [mW_at hk2] at hk
      have h1 : adf ba sp k = q := by injection hk with e1; injection e1
      rw [← h1]
      unfold adf
      rw [if_pos (Nat.lt_of_lt_of_le hk2 (Nat.le_trans hv.1.1 (Nat.le_of_lt hb)))]
      omega
    · omega
  have w := hv.2 hb p l e s m (as.map (cv (adf ba sp))).toArray below meth c D cy (va_A (mW cy (adf ba sp) M) (ba + mN M)) M ba sp s.heap [] ls
    ⟨B.exec, B.bytes, hml, hown, B.returns, B.notSynchronized, hin, fun w hw => hts w (List.mem_cons_of_mem _ hw), hK, fun q hq => Or.inr (by omega), hsz, hsp, hA2, hX _ _ _⟩ ⟨Nat.le_refl _, Nat.le_refl _⟩ hP hD0.self2 va_S.rf hl
  rw [Nat.sub_self, Nat.sub_self] at w
  exact w
/-- a call of any kind, by what va_Run says of it -/
theorem x_call {p : Program} {l : Launch} {e : Env} {R : Room} {s : State} {m : MethodId} {args : Array Value} {below : List Frame} {meth : Method} {c : Code} {H H0 : Heap} {locs : List Loc} {cells slots mc ms pc : Nat} {Qp : State → Prop} {ls : Array Slot} {st0 rest : List Value} {a : Array Value} {free A0 A1 : Nat → Prop} {D : va_G} {cy : Nat → ClassId} {ba : Nat} {sp : Nat → Nat} {r : Option Value} {M1 : Mem}
    (hr : va_Run p l e R s m args below meth c H locs cells slots mc ms (F0 m pc ls st0) rest (mQ D cy A1 ba sp r M1 a) free) (hS : va_S A0 H0 H locs) (hA : ∀ q, A1 q → A0 q) (hf : ∀ q, free q → A0 q)
    (kk : ∀ (H1 : Heap) (locs1 : List Loc), va_P D vwCl (mW cy (adf ba sp) M1) H1 → va_D A0 (mW cy (adf ba sp) M1) → va_S A0 H0 H1 locs1 → W p l e R s m args below meth c H1 locs1 (cells + mc) (slots + ms) Qp (F0 m (pc + 3) ls ((r.map (cv (adf ba sp))).toList ++ rest))) : W p l e R s m args below meth c H locs cells slots Qp (F0 m pc ls st0) := by
  intro T hT X
  obtain ⟨v, st₀, t, T', L, h0, X', hL, e1, e2, ⟨⟨hv, hP1, hK1, hD1⟩, hz, hk⟩, st⟩ := hr T hT X
  cases hv
  rw [h0] at hz hk
  obtain ⟨t2, a1, b1⟩ := kk T'.heap (locs ++ L) (by rw [e1]; exact hP1) ⟨hD1.1, fun k q hq => hA _ (hD1.2 k q hq)⟩
    ⟨Nat.le_trans hS.1 (by rw [e1]; exact hz), fun q h1 h2 => by rw [e1, hk q (Nat.lt_of_lt_of_le h1 hS.1) (fun z => h2 (hA q z))]; exact hS.2.1 q h1 h2, fun q hq => by
      rcases List.mem_append.mp hq with h | h
      · exact hS.2.2 q h
      · exact hf _ (hL q h)⟩ T' rfl X'
  exact ⟨t2, st t2 a1, b1⟩
/-- what is asked of the tables at a call of d2 by entry idx: 0 virtual, 1 static, 2 special, 3 special of a nest mate -/
def ml (d : MD) (idx kind n : Nat) (d2 : MD) : Prop :=
  Cond.code d2.1 d2.2.1 d2.2.2.1 d2.2.2.2.1 ∈ TB ∧ (d2.1.cls ≠ "java/lang/invoke/MethodHandle" ∧ d2.1.cls ≠ "java/lang/invoke/VarHandle" ∧ (parseMethodDescriptor d2.1.desc).map (fun d => d.parameters.length) = some n) ∧ d2.2.2.1 ≤ 101 ∧ Cond.initialized d2.1.cls ∈ TB ∧
  match kind with
  | 0 => Cond.methodLink d.1.cls idx d2.1 ∈ TB ∧ Cond.instanceMethod d2.1 ∈ TB ∧ Cond.selects d2.1.cls d2.1 d2.1 ∈ TB
  | 1 => Cond.methodLink d.1.cls idx d2.1 ∈ TB ∧ Cond.static d2.1 ∈ TB
  | 2 => Cond.methodLink d.1.cls idx d2.1 ∈ TB ∧ Cond.instanceMethod d2.1 ∈ TB ∧ d2.1.name = "<init>" ∧ d2.2.2.2.1 = none
  | _ => (∃ host, Cond.methodLinkNest d.1.cls idx d2.1 host ∈ NWL) ∧ Cond.instanceMethod d2.1 ∈ TB ∧ d2.1.name = "<init>" ∧ d2.2.2.2.1 = none
theorem wsm_good {d : MD} (h : Cond.code d.1 d.2.1 d.2.2.1 d.2.2.2.1 ∈ TB) : GoodIn TB (wsm d) := fun w hw => by
  rcases List.mem_cons.mp hw with rfl | hw
  · exact TB_good _ h
  · exact TB_good _ hw
section KR
variable {h : Nat} {d : MD} {pc : Nat} {lv : List (Nat × Value)} {st : List Value} {M : Mem} {Q : Option Value → Mem → Prop}
/-- a call: the frame of all kinds -/
theorem call_any {d2 : MD} {h2 : Nat} {as : List Value} {P : Option Value → Mem → Prop} {st0 : List Value} (hh : h2 + 1 ≤ h) (hE : E h2 d2 as M P) (kk : ∀ r M1, P r M1 → mE M M1 → T h d (pc + 3) lv (r.toList ++ st) M1 Q)
    (step : ∀ (p : Program) (l : Launch) (e : Env) (R : Room) (s : State) (m : MethodId) (args : Array Value) (below : List Frame) (meth : Method) (c : Code) (D : va_G) (cy : Nat → ClassId) (ad : Nat → Nat) (H : Heap) (locs : List Loc) (cells slots mc ms : Nat) (Pc : Array Value → State → Prop) (Qc : Array Value → State → Outcome → State → Prop) (free : Nat → Prop) (ls : Array Slot), p.tables.exec = Jvm.exec → c.code = d.2.1 → c.maxLocals = d.2.2.1 → s.vm.findClass d.1.cls = some m.cls → (∀ w ∈ TB, w.before args s = true) → (∀ w ∈ NWL, va_Nw w s) → va_K D vwCl (mT cy) s → va_P D vwCl (mW cy ad M) H → ls.size = d.2.2.1 →
      Met l d2.1 (wsm d2) (rmv h2 mc ms) Pc Qc mc ms free → h2 + 1 ≤ R.frames → 120 * (h2 + 1) ≤ R.locals → FrameBlind Pc → (∀ U : State, U.heap = H → s.WarmedH U.vm → Pc (as.map (cv ad)).toArray U) → cells + mc ≤ R.cells ∧ slots + ms ≤ R.slots →
      va_Run p l e R s m args below meth c H locs cells slots mc ms (F0 m pc ls (st0.map (cv ad))) (st.map (cv ad)) (Qc (as.map (cv ad)).toArray) free) : T h d pc lv st0 M Q := by
  obtain ⟨r1, M1, hEv, hP1⟩ := hE
  obtain ⟨r, M', hv, hq⟩ := kk r1 M1 hP1 hEv.1
  refine ⟨r, M', ⟨hEv.1.tr hv.1, fun hb p l e s m args below meth c D cy A M0 ba sp H locs ls X h1 hP hD hS hl => ?_⟩, hq⟩
  have g1 := hEv.1.1
  have g2 := hEv.1.2.1
  have g3 := hv.1.1
  have g4 := hv.1.2.1
  have hsz := X.2.2.2.2.2.2.2.2.2.2.1
  refine W.bound (fun hz => ?_)
  have hHs : H.size = ba + mN M := by
    by_cases h0 : mN M = mN M0
    · have := hS.1; omega
    · have e1 : (mW cy (adf ba sp) M)[mN M - 1]? = some (adf ba sp (mN M - 1), cE cy (adf ba sp) M (mN M - 1)) := mW_at (by omega)
      have e2 := (hP _ _ e1).lt
      have e3 : adf ba sp (mN M - 1) = ba + (mN M - 1) := if_pos (by omega)
      have e4 : adf ba sp (mN M - 1) < H.size := e2
      omega
  have hsub : ∀ q, va_A (mW cy (adf ba sp) M) (ba + mN M) q → A q := by
    intro q hq2
    rcases hq2 with ⟨k, en, hk⟩ | hq2
    · exact hD.2 k _ hk
    · exact X.2.2.2.2.2.2.2.2.2.1 q (by omega)
  have hM := hEv.2 (by omega) l D cy ba sp
  refine x_call (step p l e _ s m args below meth c D cy (adf ba sp) H locs _ _ _ _ _ _ _ ls X.1 X.2.1 X.2.2.1 X.2.2.2.1 X.2.2.2.2.2.2.2.1 X.2.2.2.2.2.2.2.2.2.2.2.1.1 X.2.2.2.2.2.2.2.2.1 hP hl.1 hM hh (by show 120 * (h2 + 1) ≤ 120 * h; omega) ?_ ?_ ⟨by show _ ≤ mN M' - mN M0; omega, by show _ ≤ mS M' - mS M0; omega⟩) hS hsub hsub (fun H1 locs1 hP2 hD2 hS2 => ?_)
  · intro a U g mk q
    obtain ⟨q1, q2, q3, q4, q5, q6⟩ := q
    exact ⟨q1, q2, q3, va_K.moved (u := U) (U := U.calling g mk a) (Vm.Alike.refl U.vm) q4, q5, q6.calling⟩
  · intro U hU hW
    exact ⟨rfl, by rw [hU]; exact hHs, by rw [hU]; exact hP, va_K.moved hW.alike X.2.2.2.2.2.2.2.2.1, ⟨hD.1, fun _ _ _ => trivial⟩, X.2.2.2.2.2.2.2.2.2.2.2.1.call hW (by rw [hU]; exact hS.1) (fun q h1 h2 => by rw [hU]; exact hS.2.1 q h1 h2) hsub⟩
  · have w := hv.2 hb p l e s m args below meth c D cy A M0 ba sp H1 locs1 ls X ⟨by omega, by omega⟩ hP2 hD2 hS2 hl
    rw [show mN M1 - mN M0 = mN M - mN M0 + (mN M1 - mN M) by omega, show mS M1 - mS M0 = mS M - mS M0 + (mS M1 - mS M) by omega] at w
    have e5 : (r1.toList ++ st).map (cv (adf ba sp)) = (r1.map (cv (adf ba sp))).toList ++ st.map (cv (adf ba sp)) := by cases r1 <;> rfl
    rw [e5] at w
    exact w
theorem cat_sum {ad : Nat → Nat} : ((st.map (cv ad)).map fun v => v.category).sum = (st.map fun v => v.category).sum := by
  rw [List.map_map]
  congr 1
  apply List.map_congr_left
  intro v _
  exact cv_cat ad v
theorem xt_callS {d2 : MD} {idx h2 n : Nat} {as : List Value} {P : Option Value → Mem → Prop} (hd : decode d.2.1 pc = .ok (.invokestatic idx, 3)) (hm : ml d idx 1 n d2) (hn : as.length = n) (hc : (st.map fun v => v.category).sum ≤ 8) (hh : h2 + 1 ≤ h) (hE : E h2 d2 as M P) (kk : ∀ r M1, P r M1 → mE M M1 → T h d (pc + 3) lv (r.toList ++ st) M1 Q) : T h d pc lv (as.reverse ++ st) M Q :=
  call_any hh hE kk (fun p l e R s m args below meth c D cy ad H locs cells slots mc ms Pc Qc free ls hx hb hml hw hts hnw hK hP hls hM hf hlo hbl hpre hcs => by
    refine va_runS (As := as.map (cv ad)) (n := n) ⟨hx, hb, hml, hw, hts⟩ hM ⟨callB_of n hts (wsm_good hm.1) rfl rfl rfl (hts _ hm.2.2.2.1) (hts _ hm.2.2.2.2.1) hm.2.1 ⟨hf, by have := hm.2.2.1; show 8 + (d2.2.2.1 + 11) + 120 * h2 ≤ _; omega⟩, hts _ hm.2.2.2.2.2⟩ ⟨hbl, hpre⟩ rfl (by rw [List.length_map]; exact hn) hls (by show (as.reverse ++ st).map (cv ad) = _; rw [List.map_append, List.map_reverse]) (lv_room (by rw [cat_sum]; exact hc)) hd hcs)
theorem xt_callV {d2 : MD} {idx h2 n b : Nat} {as : List Value} {P : Option Value → Mem → Prop} (hd : decode d.2.1 pc = .ok (.invokevirtual idx, 3)) (hm : ml d idx 0 n d2) (hn : as.length = n) (hb : b < mN M) (hk : (cls (mK M b)).1 = d2.1.cls ∧ mK M b < 14) (hc : (st.map fun v => v.category).sum ≤ 8) (hh : h2 + 1 ≤ h) (hE : E h2 d2 (.ref b :: as) M P) (kk : ∀ r M1, P r M1 → mE M M1 → T h d (pc + 3) lv (r.toList ++ st) M1 Q) : T h d pc lv (as.reverse ++ .ref b :: st) M Q :=
  call_any hh hE kk (fun p l e R s m args below meth c D cy ad H locs cells slots mc ms Pc Qc free ls hx hb1 hml hw hts hnw hK hP hls hM hf hlo hbl hpre hcs => by
    have hc1 : vwCl[mK M b]? = some (cls (mK M b)) := by
      unfold cls
      rw [List.getD_eq_getElem?_getD]
      have : mK M b < vwCl.length := hk.2
      rw [List.getElem?_eq_getElem this]; rfl
    have hrec := va_recv (s := s) (H := H) hK hP hc1 ((mW_at hb).trans (by rw [cE_obj rfl (by omega)]))
    rw [hk.1] at hrec
    refine va_runV (C := d2.1.cls) (b := ad b) (As := as.map (cv ad)) (n := n) ⟨hx, hb1, hml, hw, hts⟩ hM ⟨callB_of n hts (wsm_good hm.1) rfl rfl rfl (hts _ hm.2.2.2.1) (hts _ hm.2.2.2.2.1) hm.2.1 ⟨hf, by have := hm.2.2.1; show 8 + (d2.2.2.1 + 11) + 120 * h2 ≤ _; omega⟩, hts _ hm.2.2.2.2.2.1, hts _ hm.2.2.2.2.2.2⟩ ⟨hbl, hrec, hpre⟩ rfl (by rw [List.length_map]; exact hn) hls (by show (as.reverse ++ .ref b :: st).map (cv ad) = _; rw [List.map_append, List.map_reverse]; rfl) (lv_room (by rw [cat_sum]; exact hc)) hd hcs)
theorem xt_callI {d2 : MD} {idx h2 n b : Nat} {as : List Value} {P : Option Value → Mem → Prop} (hd : decode d.2.1 pc = .ok (.invokespecial idx, 3)) (hm : ml d idx 2 n d2) (hn : as.length = n) (hc : (st.map fun v => v.category).sum ≤ 8) (hh : h2 + 1 ≤ h) (hE : E h2 d2 (.ref b :: as) M P) (kk : ∀ r M1, P r M1 → mE M M1 → T h d (pc + 3) lv (r.toList ++ st) M1 Q) : T h d pc lv (as.reverse ++ .ref b :: st) M Q :=
  call_any hh hE kk (fun p l e R s m args below meth c D cy ad H locs cells slots mc ms Pc Qc free ls hx hb1 hml hw hts hnw hK hP hls hM hf hlo hbl hpre hcs => by
    refine va_runI (b := ad b) (As := as.map (cv ad)) (n := n) ⟨hx, hb1, hml, hw, hts⟩ hM ⟨callB_of n hts (wsm_good hm.1) (by unfold wsm; rw [hm.2.2.2.2.2.2.2]) rfl rfl (hts _ hm.2.2.2.1) (hts _ hm.2.2.2.2.1) hm.2.1 ⟨hf, by have := hm.2.2.1; show 8 + (d2.2.2.1 + 11) + 120 * h2 ≤ _; omega⟩, hm.2.2.2.2.2.2.1, hts _ hm.2.2.2.2.2.1⟩ ⟨hbl, hpre⟩ rfl (by rw [List.length_map]; exact hn) hls (by show (as.reverse ++ .ref b :: st).map (cv ad) = _; rw [List.map_append, List.map_reverse]; rfl) (lv_room (by rw [cat_sum]; exact hc)) hd hcs)
theorem xt_callN {d2 : MD} {idx h2 n b : Nat} {as : List Value} {P : Option Value → Mem → Prop} (hd : decode d.2.1 pc = .ok (.invokespecial idx, 3)) (hm : ml d idx 3 n d2) (hn : as.length = n) (hc : (st.map fun v => v.category).sum ≤ 8) (hh : h2 + 1 ≤ h) (hE : E h2 d2 (.ref b :: as) M P) (kk : ∀ r M1, P r M1 → mE M M1 → T h d (pc + 3) lv (r.toList ++ st) M1 Q) : T h d pc lv (as.reverse ++ .ref b :: st) M Q :=
  call_any hh hE kk (fun p l e R s m args below meth c D cy ad H locs cells slots mc ms Pc Qc free ls hx hb1 hml hw hts hnw hK hP hls hM hf hlo hbl hpre hcs => by
    obtain ⟨host, hhost⟩ := hm.2.2.2.2.1
    refine va_runIN (host := host) (b := ad b) (As := as.map (cv ad)) (n := n) ⟨hx, hb1, hml, hw, hts⟩ hM ⟨va_cnB n hts (wsm_good hm.1) (by unfold wsm; rw [hm.2.2.2.2.2.2.2]) rfl rfl (hnw _ hhost) (hts _ hm.2.2.2.1) hm.2.1 ⟨hf, by have := hm.2.2.1; show 8 + (d2.2.2.1 + 11) + 120 * h2 ≤ _; omega⟩, hm.2.2.2.2.2.2.1, hts _ hm.2.2.2.2.2.1⟩ ⟨hbl, hpre⟩ rfl (by rw [List.length_map]; exact hn) hls (by show (as.reverse ++ .ref b :: st).map (cv ad) = _; rw [List.map_append, List.map_reverse]; rfl) (lv_room (by rw [cat_sum]; exact hc)) hd hcs)
theorem xt_objInit {idx a : Nat} (hd : decode d.2.1 pc = .ok (.invokespecial idx, 3)) (hm : Cond.methodLink d.1.cls idx objectInit ∈ TB ∧ Cond.instanceMethod objectInit ∈ TB ∧ Cond.code objectInit ⟨#[0xb1]⟩ 1 none ∈ TB) (hc : (st.map fun v => v.category).sum ≤ 8) (hh : 1 ≤ h) (kk : T h d (pc + 3) lv st M Q) : T h d pc lv (.ref a :: st) M Q := by
  obtain ⟨r, M', hv, hq⟩ := kk
  refine ⟨r, M', ⟨hv.1, fun hb p l e s m args below meth c D cy A M0 ba sp H locs ls X h1 hP hD hS hl => ?_⟩, hq⟩
  have w := hv.2 hb p l e s m args below meth c D cy A M0 ba sp H locs ls X h1 hP hD hS hl
  have hrm := lv_room (m := m) (pc := pc) (ls := ls) (rest := (Value.ref a :: st).map (cv (adf ba sp))) (st := st.map (cv (adf ba sp))) (by rw [cat_sum]; exact hc)
  exact W.objInit X.1 X.2.1 X.2.2.2.1 (X.2.2.2.2.2.2.2.1 _ hm.1) (X.2.2.2.2.2.2.2.1 _ hm.2.1) (X.2.2.2.2.2.2.2.1 _ hm.2.2) rfl (by show ls.size = c.maxLocals; rw [hl.1, X.2.2.1]) (rest := st.map (cv (adf ba sp))) rfl hd hh (by show _ ≤ 120 * h; omega) w
end KR
