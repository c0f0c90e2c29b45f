/-- special cells (Strings, static arrays, cached Integers): numbers from mBig on -/
def adf (ba : Nat) (sp : Nat → Nat) (a : Nat) : Nat := if a < mBig then ba + a else sp (a - mBig)
def lm (ad : Nat → Nat) (lv : List (Nat × Value)) : List (Nat × Value) := lv.map fun q => (q.1, cv ad q.2)
theorem lm_at {ad : Nat → Nat} {lv : List (Nat × Value)} {ls : Array Slot} {nL : Nat} (h : lv_has ls nL (lm ad lv)) {j i : Nat} {v : Value} (hj : lv[j]? = some (i, v)) : ls[i]? = some (.val (cv ad v)) :=
  lv_at h j (by simp [lm, hj])
theorem cv_cat (ad : Nat → Nat) (v : Value) : (cv ad v).category = v.category := by cases v <;> rfl
theorem lm_filter1 {ad : Nat → Nat} {lv : List (Nat × Value)} (i : Nat) : (lm ad lv).filter (fun q => !(q.1 == i) && !(q.1 + 1 == i && q.2.category == 2)) = lm ad (lv.filter (fun q => !(q.1 == i) && !(q.1 + 1 == i && q.2.category == 2))) := by
  unfold lm
  rw [List.filter_map]
  congr 1
  apply List.filter_congr
  intro q _
  simp [cv_cat]
theorem lm_filter2 {ad : Nat → Nat} {lv : List (Nat × Value)} (i : Nat) : (lm ad lv).filter (fun q => !(q.1 == i) && (!(q.1 == i + 1) && !(q.1 + 1 == i && q.2.category == 2))) = lm ad (lv.filter (fun q => !(q.1 == i) && (!(q.1 == i + 1) && !(q.1 + 1 == i && q.2.category == 2)))) := by
  unfold lm
  rw [List.filter_map]
  congr 1
  apply List.filter_congr
  intro q _
  simp [cv_cat]
/-- words that are no good words, but are kept: carried along -/
def nwWord : Cond → Bool
  | .methodLinkNest .. => true
  | .castable .. => true
  | .declares .. => true
  | _ => false
def NWL : List Cond := lw_tbl.filter nwWord
theorem NWL_warm {s U : State} (hW : s.WarmedH U.vm) (h : ∀ w ∈ NWL, va_Nw w s) : ∀ w ∈ NWL, va_Nw w U := by
  intro w hw
  have h1 := h w hw
  have h2 := (List.mem_filter.mp hw).2
  cases w <;> first | (simp [nwWord] at h2; done) | exact va_Nw.warmM hW h1 | exact va_Nw.warmC hW h1 | exact va_Nw.warmD hW h1
theorem NWL_same {s U : State} (hv : s.vm = U.vm) (h : ∀ w ∈ NWL, va_Nw w s) : ∀ w ∈ NWL, va_Nw w U := by
  intro w hw
  have h1 := h w hw
  have h2 := (List.mem_filter.mp hw).2
  cases w <;> first | (simp [nwWord] at h2; done) | exact va_Nw.same rfl hv h1
def txK : String := "input output signal one sum most var nothing pause halt emit sustain loop end present then else await immediate abort weak when suspend every do trap in exit if and or not pre "
def txS : String := ";,()[]?+-*/%"
def txB : List (List Int32) := [[105, 110, 112, 117, 116, 32, 111, 117, 116, 112, 117, 116, 32, 115, 105, 103, 110, 97, 108, 32, 111, 110, 101, 32, 115, 117, 109, 32, 109, 111, 115, 116, 32, 118, 97, 114, 32, 110, 111, 116, 104, 105, 110, 103, 32, 112, 97, 117, 115, 101, 32, 104, 97, 108, 116, 32, 101, 109, 105, 116, 32, 115, 117, 115, 116, 97, 105, 110, 32, 108, 111, 111, 112, 32, 101, 110, 100, 32, 112, 114, 101, 115, 101, 110, 116, 32, 116, 104, 101, 110, 32, 101, 108, 115, 101, 32, 97, 119, 97, 105, 116, 32, 105, 109, 109, 101, 100, 105, 97, 116, 101, 32, 97, 98, 111, 114, 116, 32, 119, 101, 97, 107, 32, 119, 104, 101, 110, 32, 115, 117, 115, 112, 101, 110, 100, 32, 101, 118, 101, 114, 121, 32, 100, 111, 32, 116, 114, 97, 112, 32, 105, 110, 32, 101, 120, 105, 116, 32, 105, 102, 32, 97, 110, 100, 32, 111, 114, 32, 110, 111, 116, 32, 112, 114, 101, 32], [59, 44, 40, 41, 91, 93, 63, 43, 45, 42, 47, 37]]
def laneB : List Int32 := [-1431655766, -858993460, -252645136, -16711936, -65536]
def AOI (U : State) : Prop := (Cond.arrayOver (.array .int)).before #[] U = true
theorem AOI.moved {u U : State} (hvm : u.vm.Alike U.vm) (h : AOI u) : AOI U := by
  simp only [AOI, Cond.before, Cond.holds, Cond.value, beq_iff_eq, Option.bind_eq_some_iff, Option.map_eq_some_iff] at h ⊢
  obtain ⟨comp, hcomp, c, hi, k, hk, hb⟩ := h
  obtain ⟨k', hk', he⟩ := hvm.2.2 _ _ hk
  refine ⟨comp, by rw [hvm.findClass]; exact hcomp, c, ?_, k', hk', ?_⟩
  · have a := va_idx_bare U.vm comp
    have b := va_idx_bare u.vm comp
    have hbb : U.vm.bare = u.vm.bare := by first | exact hvm.bare_eq | exact hvm.bare_eq.symm
    rw [hbb] at a
    exact (a.symm.trans b).trans hi
  · rw [show k'.kind = k.kind by rw [he], hvm.findClass]
    exact hb
/-- what lies in the heap beside the memory (sp: where): the Strings 1, 2, their bytes 3, 4, ArrayList's empty row 5, LANE_BITS 6, the Integer cache 7, its Integers from 1000 on -/
def SPH (sp : Nat → Nat) (A : Nat → Prop) (s : State) : Prop :=
  (vk_R "BeatMill$Tokens" 29 txK (sp 1) s ∧ vk_R "BeatMill$Tokens" 113 txS (sp 2) s) ∧
  vk_S 2 [176, 12] txB (fun i => sp (1 + i)) (fun i => sp (3 + i)) A s s.heap ∧
  va_Z "java/lang/String" "COMPACT_STRINGS" "Z" (.int 1) A s s.heap ∧
  (va_Z "java/util/ArrayList" "DEFAULTCAPACITY_EMPTY_ELEMENTDATA" "[Ljava/lang/Object;" (.ref (sp 5)) A s s.heap ∧ va_T (.object "java/lang/Object") (sp 5) 0 (fun _ => .null) A s s.heap) ∧
  (va_Z "BeatMill$Search" "LANE_BITS" "[I" (.ref (sp 6)) A s s.heap ∧ va_T .int (sp 6) 5 (fun k => .int (laneB.getD k 0)) A s s.heap) ∧
  (va_Z "java/lang/Integer$IntegerCache" "high" "I" (.int 127) A s s.heap ∧ va_Z "java/lang/Integer$IntegerCache" "cache" "[Ljava/lang/Integer;" (.ref (sp 7)) A s s.heap ∧ va_T (.object "java/lang/Integer") (sp 7) 256 (fun k => .ref (sp (1000 + k))) A s s.heap ∧ vb_C (fun k => sp (1000 + k)) A s s.heap) ∧
  (va_Z "jdk/internal/util/Preconditions" "SIOOBE_FORMATTER" "Ljava/util/function/BiFunction;" .null A s s.heap ∨ va_Z "jdk/internal/util/Preconditions" "SIOOBE_FORMATTER" "Ljava/util/function/BiFunction;" (.ref (sp 9)) A s s.heap) ∧
  (va_Mi "[Ljava/lang/Object;" (sp 11) s ∧ va_Dc s ∧ va_AO "java/lang/Object" s ∧ AOI s)
theorem SPH.call {sp : Nat → Nat} {A A' : Nat → Prop} {s U : State} (h : SPH sp A s) (hW : s.WarmedH U.vm) (hz : s.heap.size ≤ U.heap.size) (hk : ∀ q, q < s.heap.size → ¬ A q → U.heap[q]? = s.heap[q]?) (hA : ∀ q, A' q → A q) : SPH sp A' U := by
  obtain ⟨⟨a1, a2⟩, b, c, ⟨d1, d2⟩, ⟨e1, e2⟩, ⟨f1, f2, f3, f4⟩, g, m1, m2, m3, m4⟩ := h
  have hv := hW.alike
  have g2 := g.imp (fun z => ((z.kept hk).moved hv).narrow hA) (fun z => ((z.kept hk).moved hv).narrow hA)
  exact ⟨⟨a1.warm hW, a2.warm hW⟩, ((b.kept hk).moved hv).narrow hA, ((c.kept hk).moved hv).narrow hA, ⟨((d1.kept hk).moved hv).narrow hA, ((d2.kept hk).moved hv).narrow hA⟩, ⟨((e1.kept hk).moved hv).narrow hA, ((e2.kept hk).moved hv).narrow hA⟩, ⟨((f1.kept hk).moved hv).narrow hA, ((f2.kept hk).moved hv).narrow hA, ((f3.kept hk).moved hv).narrow hA, ((f4.kept hk).moved hv).narrow hA⟩, g2, m1.moved hv, m2.moved hv, m3.moved hv, m4.moved hv⟩
theorem SPH.calling {sp : Nat → Nat} {A : Nat → Prop} {U : State} {g_ : JFrame} {mk : MethodId} {a : Array Value} (h : SPH sp A U) : SPH sp A (U.calling g_ mk a) := by
  obtain ⟨⟨a1, a2⟩, b, c, ⟨d1, d2⟩, ⟨e1, e2⟩, ⟨f1, f2, f3, f4⟩, g, m1, m2, m3, m4⟩ := h
  have hv : U.vm.Alike (U.calling g_ mk a).vm := Vm.Alike.refl U.vm
  have hk : ∀ q, q < U.heap.size → ¬ A q → (U.calling g_ mk a).heap[q]? = U.heap[q]? := fun _ _ _ => rfl
  exact ⟨⟨a1.same rfl, a2.same rfl⟩, (b.kept hk).moved hv, (c.kept hk).moved hv, ⟨(d1.kept hk).moved hv, (d2.kept hk).moved hv⟩, ⟨(e1.kept hk).moved hv, (e2.kept hk).moved hv⟩, ⟨(f1.kept hk).moved hv, (f2.kept hk).moved hv, (f3.kept hk).moved hv, (f4.kept hk).moved hv⟩, g.imp (fun z => (z.kept hk).moved hv) (fun z => (z.kept hk).moved hv), m1.moved hv, m2.moved hv, m3.moved hv, m4.moved hv⟩
def SPC (ba : Nat) (sp : Nat → Nat) (A : Nat → Prop) (s : State) : Prop := (∀ w ∈ NWL, va_Nw w s) ∧ SPH sp A s
theorem SPC.call {ba : Nat} {sp : Nat → Nat} {A A' : Nat → Prop} {s U : State} (h : SPC ba sp A s) (hW : s.WarmedH U.vm) (hz : s.heap.size ≤ U.heap.size) (hk : ∀ q, q < s.heap.size → ¬ A q → U.heap[q]? = s.heap[q]?) (hA : ∀ q, A' q → A q) : SPC ba sp A' U := ⟨NWL_warm hW h.1, h.2.call hW hz hk hA⟩
theorem SPC.calling {ba : Nat} {sp : Nat → Nat} {A : Nat → Prop} {U : State} {g : JFrame} {mk : MethodId} {a : Array Value} (h : SPC ba sp A U) : SPC ba sp A (U.calling g mk a) := ⟨NWL_same (s := U) (U := U.calling g mk a) rfl h.1, h.2.calling⟩
/-- what stands fast along a method's walk -/
def vx (d : MD) (p : Program) (s : State) (m : MethodId) (args : Array Value) (meth : Method) (c : Code) (D : va_G) (cy : Nat → ClassId) (A : Nat → Prop) (M0 : Mem) (ba : Nat) (sp : Nat → Nat) : Prop :=
  p.tables.exec = Jvm.exec ∧ c.code = d.2.1 ∧ c.maxLocals = d.2.2.1 ∧ s.vm.findClass d.1.cls = some m.cls ∧ meth.sig.returnType = d.2.2.2.1 ∧ meth.locks = false ∧ meth.name = d.1.name ∧ (∀ w ∈ TB, w.before args s = true) ∧ va_K D vwCl (mT cy) s ∧ (∀ q, s.heap.size ≤ q → A q) ∧ s.heap.size = ba + mN M0 ∧ SPC ba sp A s ∧ (∀ q, A q → ba ≤ q) ∧ d.2.2.2.2 s A sp
/-- what is behind it: the answer r, the memory M' -/
def mQ (D : va_G) (cy : Nat → ClassId) (A : Nat → Prop) (ba : Nat) (sp : Nat → Nat) (r : Option Value) (M' : Mem) : Array Value → State → Outcome → State → Prop := fun _ st oc t =>
  (oc = .returned (r.map (cv (adf ba sp))) ∧ va_P D vwCl (mW cy (adf ba sp) M') t.heap ∧ va_K D vwCl (mT cy) t ∧ va_D A (mW cy (adf ba sp) M')) ∧ va_F A st t
/-- from pc, with these locals, this stack, this memory, the method answers r and leaves M' -/
def V (h : Nat) (d : MD) (pc : Nat) (lv : List (Nat × Value)) (st : List Value) (M : Mem) (r : Option Value) (M' : Mem) : Prop :=
  mE M M' ∧ (mN M' < mBig → ∀ (p : Program) (l : Launch) (e : Env) (s : State) (m : MethodId) (args : Array Value) (below : List Frame) (meth : Method) (c : Code) (D : va_G) (cy : Nat → ClassId) (A : Nat → Prop) (M0 : Mem) (ba : Nat) (sp : Nat → Nat) (H : Heap) (locs : List Loc) (ls : Array Slot),
    vx d p s m args meth c D cy A M0 ba sp → mN M0 ≤ mN M ∧ mS M0 ≤ mS M → va_P D vwCl (mW cy (adf ba sp) M) H → va_D A (mW cy (adf ba sp) M) → va_S A s.heap H locs → lv_has ls d.2.2.1 (lm (adf ba sp) lv) →
    W p l e (rmv h (mN M' - mN M0) (mS M' - mS M0)) s m args below meth c H locs (mN M - mN M0) (mS M - mS M0) (MQ below (mQ D cy A ba sp r M') args s (mN M' - mN M0) (mS M' - mS M0) A) (F0 m pc ls (st.map (cv (adf ba sp)))))
def T (h : Nat) (d : MD) (pc : Nat) (lv : List (Nat × Value)) (st : List Value) (M : Mem) (Q : Option Value → Mem → Prop) : Prop := ∃ (r : Option Value) (M' : Mem), V h d pc lv st M r M' ∧ Q r M'
/-- a step that touches no memory -/
theorem V.go {h : Nat} {d : MD} {pc pc' : Nat} {lv lv' : List (Nat × Value)} {st st' : List Value} {M M' : Mem} {r : Option Value} (k : V h d pc' lv' st' M r M')
    (step : ∀ (p : Program) (l : Launch) (e : Env) (R : Room) (s : State) (m : MethodId) (args : Array Value) (below : List Frame) (meth : Method) (c : Code) (H : Heap) (locs : List Loc) (cells slots : Nat) (Q : State → Prop) (ad : Nat → Nat) (ls : Array Slot), p.tables.exec = Jvm.exec → c.code = d.2.1 → lv_has ls d.2.2.1 (lm ad lv) →
      s.vm.findClass d.1.cls = some m.cls → (∀ w ∈ TB, w.before args s = true) →
      (∀ ls' : Array Slot, lv_has ls' d.2.2.1 (lm ad lv') → W p l e R s m args below meth c H locs cells slots Q (F0 m pc' ls' (st'.map (cv ad)))) → W p l e R s m args below meth c H locs cells slots Q (F0 m pc ls (st.map (cv ad)))) : V h d pc lv st M r M' :=
  ⟨k.1, fun hb p l e s m args below meth c D cy A M0 ba sp H locs ls X h1 hP hD hS hl => step p l e _ s m args below meth c H locs _ _ _ _ ls X.1 X.2.1 hl X.2.2.2.1 X.2.2.2.2.2.2.2.1 (fun ls' hl' => k.2 hb p l e s m args below meth c D cy A M0 ba sp H locs ls' X h1 hP hD hS hl')⟩
theorem T.go {h : Nat} {d : MD} {pc pc' : Nat} {lv lv' : List (Nat × Value)} {st st' : List Value} {M : Mem} {Q : Option Value → Mem → Prop} (k : T h d pc' lv' st' M Q)
    (step : ∀ (p : Program) (l : Launch) (e : Env) (R : Room) (s : State) (m : MethodId) (args : Array Value) (below : List Frame) (meth : Method) (c : Code) (H : Heap) (locs : List Loc) (cells slots : Nat) (Q : State → Prop) (ad : Nat → Nat) (ls : Array Slot), p.tables.exec = Jvm.exec → c.code = d.2.1 → lv_has ls d.2.2.1 (lm ad lv) →
      s.vm.findClass d.1.cls = some m.cls → (∀ w ∈ TB, w.before args s = true) →
      (∀ ls' : Array Slot, lv_has ls' d.2.2.1 (lm ad lv') → W p l e R s m args below meth c H locs cells slots Q (F0 m pc' ls' (st'.map (cv ad)))) → W p l e R s m args below meth c H locs cells slots Q (F0 m pc ls (st.map (cv ad)))) : T h d pc lv st M Q := by
  obtain ⟨r, M', hv, hq⟩ := k
  exact ⟨r, M', hv.go step, hq⟩
section TR
variable {h : Nat} {d : MD} {pc : Nat} {lv : List (Nat × Value)} {st : List Value} {M : Mem} {Q : Option Value → Mem → Prop}
theorem T.imp {P : Option Value → Mem → Prop} (k : T h d pc lv st M P) (hPQ : ∀ r M', P r M' → Q r M') : T h d pc lv st M Q := by
  obtain ⟨r, M', hv, hq⟩ := k
  exact ⟨r, M', hv, hPQ r M' hq⟩
/-- fewer locals, in any order -/
theorem xt_sub {lv' : List (Nat × Value)} (ks : List Nat) (hl : lv_pick lv ks = lv') (k : T h d pc lv' st M Q) : T h d pc lv st M Q :=
  k.go (fun p l e R s m args below meth c H locs cells slots Q ad ls hx hb hl0 hw ht kk => kk ls (lv_sub hl0 ks (by rw [← hl]; simp [lm, lv_pick, List.filterMap_map, List.map_filterMap])))
theorem xt_iconst {n : Int} {v : Int32} (hd : decode d.2.1 pc = .ok (.iconst n, 1)) (hv : Int32.ofInt n = v) (k : T h d (pc + 1) lv (.int v :: st) M Q) : T h d pc lv (st) M Q :=
  k.go (fun p l e R s m args below meth c H locs cells slots Q ad ls hx hb hl0 hw ht kk => lv_iconst hx hb hd hv (kk ls hl0))
theorem xt_bipush {n : Int} {v : Int32} (hd : decode d.2.1 pc = .ok (.bipush n, 2)) (hv : (Int8.ofInt n).toInt32 = v) (k : T h d (pc + 2) lv (.int v :: st) M Q) : T h d pc lv (st) M Q :=
  k.go (fun p l e R s m args below meth c H locs cells slots Q ad ls hx hb hl0 hw ht kk => lv_bipush hx hb hd hv (kk ls hl0))
theorem xt_sipush {n : Int} {v : Int32} (hd : decode d.2.1 pc = .ok (.sipush n, 3)) (hv : (Int16.ofInt n).toInt32 = v) (k : T h d (pc + 3) lv (.int v :: st) M Q) : T h d pc lv (st) M Q :=
  k.go (fun p l e R s m args below meth c H locs cells slots Q ad ls hx hb hl0 hw ht kk => lv_sipush hx hb hd hv (kk ls hl0))
theorem xt_lconst {n : Fin 2} {v : Int64} (hd : decode d.2.1 pc = .ok (.lconst n, 1)) (hv : Int64.ofNat (n : Nat) = v) (k : T h d (pc + 1) lv (.long v :: st) M Q) : T h d pc lv (st) M Q :=
  k.go (fun p l e R s m args below meth c H locs cells slots Q ad ls hx hb hl0 hw ht kk => lv_lconst hx hb hd hv (kk ls hl0))
theorem xt_null (hd : decode d.2.1 pc = .ok (.aconst_null, 1)) (k : T h d (pc + 1) lv (.null :: st) M Q) : T h d pc lv (st) M Q :=
  k.go (fun p l e R s m args below meth c H locs cells slots Q ad ls hx hb hl0 hw ht kk => lv_null hx hb hd (kk ls hl0))
theorem xt_iload_n {k4 : Fin 4} {i j : Nat} {x : Int32} (hd : decode d.2.1 pc = .ok (.iload_n k4, 1)) (hi : (k4 : Nat) = i) (hj : lv[j]? = some (i, .int x)) (k : T h d (pc + 1) lv (.int x :: st) M Q) : T h d pc lv (st) M Q :=
  k.go (fun p l e R s m args below meth c H locs cells slots Q ad ls hx hb hl0 hw ht kk => lv_iload_n hx hb hd hi (lm_at hl0 hj) (kk ls hl0))
theorem xt_iload {i j : Nat} {x : Int32} (hd : decode d.2.1 pc = .ok (.iload i, 2)) (hj : lv[j]? = some (i, .int x)) (k : T h d (pc + 2) lv (.int x :: st) M Q) : T h d pc lv (st) M Q :=
  k.go (fun p l e R s m args below meth c H locs cells slots Q ad ls hx hb hl0 hw ht kk => lv_iload hx hb hd (lm_at hl0 hj) (kk ls hl0))
theorem xt_lload_n {k4 : Fin 4} {i j : Nat} {x : Int64} (hd : decode d.2.1 pc = .ok (.lload_n k4, 1)) (hi : (k4 : Nat) = i) (hj : lv[j]? = some (i, .long x)) (k : T h d (pc + 1) lv (.long x :: st) M Q) : T h d pc lv (st) M Q :=
  k.go (fun p l e R s m args below meth c H locs cells slots Q ad ls hx hb hl0 hw ht kk => lv_lload_n hx hb hd hi (lm_at hl0 hj) (kk ls hl0))
theorem xt_lload {i j : Nat} {x : Int64} (hd : decode d.2.1 pc = .ok (.lload i, 2)) (hj : lv[j]? = some (i, .long x)) (k : T h d (pc + 2) lv (.long x :: st) M Q) : T h d pc lv (st) M Q :=
  k.go (fun p l e R s m args below meth c H locs cells slots Q ad ls hx hb hl0 hw ht kk => lv_lload hx hb hd (lm_at hl0 hj) (kk ls hl0))
theorem xt_aload_n {k4 : Fin 4} {i j : Nat} {x : Nat} (hd : decode d.2.1 pc = .ok (.aload_n k4, 1)) (hi : (k4 : Nat) = i) (hj : lv[j]? = some (i, .ref x)) (k : T h d (pc + 1) lv (.ref x :: st) M Q) : T h d pc lv (st) M Q :=
  k.go (fun p l e R s m args below meth c H locs cells slots Q ad ls hx hb hl0 hw ht kk => lv_aload_n hx hb hd hi (lm_at hl0 hj) (kk ls hl0))
theorem xt_aload {i j : Nat} {x : Nat} (hd : decode d.2.1 pc = .ok (.aload i, 2)) (hj : lv[j]? = some (i, .ref x)) (k : T h d (pc + 2) lv (.ref x :: st) M Q) : T h d pc lv (st) M Q :=
  k.go (fun p l e R s m args below meth c H locs cells slots Q ad ls hx hb hl0 hw ht kk => lv_aload hx hb hd (lm_at hl0 hj) (kk ls hl0))
theorem xt_aload_nN {k4 : Fin 4} {i j : Nat} (hd : decode d.2.1 pc = .ok (.aload_n k4, 1)) (hi : (k4 : Nat) = i) (hj : lv[j]? = some (i, .null)) (k : T h d (pc + 1) lv (.null :: st) M Q) : T h d pc lv (st) M Q :=
  k.go (fun p l e R s m args below meth c H locs cells slots Q ad ls hx hb hl0 hw ht kk => lv_aload_nN hx hb hd hi (lm_at hl0 hj) (kk ls hl0))
theorem xt_aloadN {i j : Nat} (hd : decode d.2.1 pc = .ok (.aload i, 2)) (hj : lv[j]? = some (i, .null)) (k : T h d (pc + 2) lv (.null :: st) M Q) : T h d pc lv (st) M Q :=
  k.go (fun p l e R s m args below meth c H locs cells slots Q ad ls hx hb hl0 hw ht kk => lv_aloadN hx hb hd (lm_at hl0 hj) (kk ls hl0))
theorem xt_istore_n {k4 : Fin 4} {i : Nat} {x : Int32} {lv' : List (Nat × Value)} (hd : decode d.2.1 pc = .ok (.istore_n k4, 1)) (hi : (k4 : Nat) = i) (hn : i < d.2.2.1) (hl : (i, Value.int x) :: lv.filter (fun q => !(q.1 == i) && !(q.1 + 1 == i && q.2.category == 2)) = lv') (k : T h d (pc + 1) lv' st M Q) : T h d pc lv (Value.int x :: st) M Q :=
  k.go (fun p l e R s m args below meth c H locs cells slots Q ad ls hx hb hl0 hw ht kk => lv_istore_n hx hb hd hi hl0 hn (by rw [← hl, lm_filter1]; rfl) kk)
theorem xt_istore {i : Nat} {x : Int32} {lv' : List (Nat × Value)} (hd : decode d.2.1 pc = .ok (.istore i, 2)) (hn : i < d.2.2.1) (hl : (i, Value.int x) :: lv.filter (fun q => !(q.1 == i) && !(q.1 + 1 == i && q.2.category == 2)) = lv') (k : T h d (pc + 2) lv' st M Q) : T h d pc lv (Value.int x :: st) M Q :=
  k.go (fun p l e R s m args below meth c H locs cells slots Q ad ls hx hb hl0 hw ht kk => lv_istore hx hb hd hl0 hn (by rw [← hl, lm_filter1]; rfl) kk)
theorem xt_astore_n {k4 : Fin 4} {i : Nat} {x : Nat} {lv' : List (Nat × Value)} (hd : decode d.2.1 pc = .ok (.astore_n k4, 1)) (hi : (k4 : Nat) = i) (hn : i < d.2.2.1) (hl : (i, Value.ref x) :: lv.filter (fun q => !(q.1 == i) && !(q.1 + 1 == i && q.2.category == 2)) = lv') (k : T h d (pc + 1) lv' st M Q) : T h d pc lv (Value.ref x :: st) M Q :=
  k.go (fun p l e R s m args below meth c H locs cells slots Q ad ls hx hb hl0 hw ht kk => lv_astore_n hx hb hd hi hl0 hn (by rw [← hl, lm_filter1]; rfl) kk)
theorem xt_astore {i : Nat} {x : Nat} {lv' : List (Nat × Value)} (hd : decode d.2.1 pc = .ok (.astore i, 2)) (hn : i < d.2.2.1) (hl : (i, Value.ref x) :: lv.filter (fun q => !(q.1 == i) && !(q.1 + 1 == i && q.2.category == 2)) = lv') (k : T h d (pc + 2) lv' st M Q) : T h d pc lv (Value.ref x :: st) M Q :=
  k.go (fun p l e R s m args below meth c H locs cells slots Q ad ls hx hb hl0 hw ht kk => lv_astore hx hb hd hl0 hn (by rw [← hl, lm_filter1]; rfl) kk)
theorem xt_astore_nN {k4 : Fin 4} {i : Nat} {lv' : List (Nat × Value)} (hd : decode d.2.1 pc = .ok (.astore_n k4, 1)) (hi : (k4 : Nat) = i) (hn : i < d.2.2.1) (hl : (i, Value.null) :: lv.filter (fun q => !(q.1 == i) && !(q.1 + 1 == i && q.2.category == 2)) = lv') (k : T h d (pc + 1) lv' st M Q) : T h d pc lv (Value.null :: st) M Q :=
  k.go (fun p l e R s m args below meth c H locs cells slots Q ad ls hx hb hl0 hw ht kk => lv_astore_nN hx hb hd hi hl0 hn (by rw [← hl, lm_filter1]; rfl) kk)
theorem xt_astoreN {i : Nat} {lv' : List (Nat × Value)} (hd : decode d.2.1 pc = .ok (.astore i, 2)) (hn : i < d.2.2.1) (hl : (i, Value.null) :: lv.filter (fun q => !(q.1 == i) && !(q.1 + 1 == i && q.2.category == 2)) = lv') (k : T h d (pc + 2) lv' st M Q) : T h d pc lv (Value.null :: st) M Q :=
  k.go (fun p l e R s m args below meth c H locs cells slots Q ad ls hx hb hl0 hw ht kk => lv_astoreN hx hb hd hl0 hn (by rw [← hl, lm_filter1]; rfl) kk)
theorem xt_lstore_n {k4 : Fin 4} {i : Nat} {x : Int64} {lv' : List (Nat × Value)} (hd : decode d.2.1 pc = .ok (.lstore_n k4, 1)) (hi : (k4 : Nat) = i) (hn : i + 1 < d.2.2.1) (hl : (i, Value.long x) :: lv.filter (fun q => !(q.1 == i) && (!(q.1 == i + 1) && !(q.1 + 1 == i && q.2.category == 2))) = lv') (k : T h d (pc + 1) lv' st M Q) : T h d pc lv (Value.long x :: st) M Q :=
  k.go (fun p l e R s m args below meth c H locs cells slots Q ad ls hx hb hl0 hw ht kk => lv_lstore_n hx hb hd hi hl0 hn (by rw [← hl, lm_filter2]; rfl) kk)
theorem xt_lstore {i : Nat} {x : Int64} {lv' : List (Nat × Value)} (hd : decode d.2.1 pc = .ok (.lstore i, 2)) (hn : i + 1 < d.2.2.1) (hl : (i, Value.long x) :: lv.filter (fun q => !(q.1 == i) && (!(q.1 == i + 1) && !(q.1 + 1 == i && q.2.category == 2))) = lv') (k : T h d (pc + 2) lv' st M Q) : T h d pc lv (Value.long x :: st) M Q :=
  k.go (fun p l e R s m args below meth c H locs cells slots Q ad ls hx hb hl0 hw ht kk => lv_lstore hx hb hd hl0 hn (by rw [← hl, lm_filter2]; rfl) kk)
theorem xt_iinc {i j : Nat} {n : Int} {x v : Int32} {lv' : List (Nat × Value)} (hd : decode d.2.1 pc = .ok (.iinc i n, 3)) (hj : lv[j]? = some (i, .int x)) (hv : x + Int32.ofInt n = v) (hn : i < d.2.2.1) (hl : (i, Value.int v) :: lv.filter (fun q => !(q.1 == i) && !(q.1 + 1 == i && q.2.category == 2)) = lv') (k : T h d (pc + 3) lv' st M Q) : T h d pc lv st M Q :=
  k.go (fun p l e R s m args below meth c H locs cells slots Q ad ls hx hb hl0 hw ht kk => lv_iinc hx hb hd hl0 (k := j) (by simp [lm, hj, cv]) hv hn (by rw [← hl, lm_filter1]; rfl) kk)
theorem xt_iadd {x y : Int32} (hd : decode d.2.1 pc = .ok (.iadd, 1)) (k : T h d (pc + 1) lv (.int (x + y) :: st) M Q) : T h d pc lv (.int y :: .int x :: st) M Q :=
  k.go (fun p l e R s m args below meth c H locs cells slots Q ad ls hx hb hl0 hw ht kk => lv_iadd hx hb hd (kk ls hl0))
theorem xt_isub {x y : Int32} (hd : decode d.2.1 pc = .ok (.isub, 1)) (k : T h d (pc + 1) lv (.int (x - y) :: st) M Q) : T h d pc lv (.int y :: .int x :: st) M Q :=
  k.go (fun p l e R s m args below meth c H locs cells slots Q ad ls hx hb hl0 hw ht kk => lv_isub hx hb hd (kk ls hl0))
theorem xt_imul {x y : Int32} (hd : decode d.2.1 pc = .ok (.imul, 1)) (k : T h d (pc + 1) lv (.int (x * y) :: st) M Q) : T h d pc lv (.int y :: .int x :: st) M Q :=
  k.go (fun p l e R s m args below meth c H locs cells slots Q ad ls hx hb hl0 hw ht kk => lv_imul hx hb hd (kk ls hl0))
theorem xt_iand {x y : Int32} (hd : decode d.2.1 pc = .ok (.iand, 1)) (k : T h d (pc + 1) lv (.int (x &&& y) :: st) M Q) : T h d pc lv (.int y :: .int x :: st) M Q :=
  k.go (fun p l e R s m args below meth c H locs cells slots Q ad ls hx hb hl0 hw ht kk => lv_iand hx hb hd (kk ls hl0))
theorem xt_ior {x y : Int32} (hd : decode d.2.1 pc = .ok (.ior, 1)) (k : T h d (pc + 1) lv (.int (x ||| y) :: st) M Q) : T h d pc lv (.int y :: .int x :: st) M Q :=
  k.go (fun p l e R s m args below meth c H locs cells slots Q ad ls hx hb hl0 hw ht kk => lv_ior hx hb hd (kk ls hl0))
theorem xt_ixor {x y : Int32} (hd : decode d.2.1 pc = .ok (.ixor, 1)) (k : T h d (pc + 1) lv (.int (x ^^^ y) :: st) M Q) : T h d pc lv (.int y :: .int x :: st) M Q :=
  k.go (fun p l e R s m args below meth c H locs cells slots Q ad ls hx hb hl0 hw ht kk => lv_ixor hx hb hd (kk ls hl0))
theorem xt_ishl {x y : Int32} (hd : decode d.2.1 pc = .ok (.ishl, 1)) (k : T h d (pc + 1) lv (.int (x <<< (y &&& 31)) :: st) M Q) : T h d pc lv (.int y :: .int x :: st) M Q :=
  k.go (fun p l e R s m args below meth c H locs cells slots Q ad ls hx hb hl0 hw ht kk => lv_ishl hx hb hd (kk ls hl0))
theorem xt_ishr {x y : Int32} (hd : decode d.2.1 pc = .ok (.ishr, 1)) (k : T h d (pc + 1) lv (.int (x >>> (y &&& 31)) :: st) M Q) : T h d pc lv (.int y :: .int x :: st) M Q :=
  k.go (fun p l e R s m args below meth c H locs cells slots Q ad ls hx hb hl0 hw ht kk => lv_ishr hx hb hd (kk ls hl0))
theorem xt_iushr {x y : Int32} (hd : decode d.2.1 pc = .ok (.iushr, 1)) (k : T h d (pc + 1) lv (.int ((x.toUInt32 >>> (y.toUInt32 &&& Int32.toUInt32 31)).toInt32) :: st) M Q) : T h d pc lv (.int y :: .int x :: st) M Q :=
  k.go (fun p l e R s m args below meth c H locs cells slots Q ad ls hx hb hl0 hw ht kk => lv_iushr hx hb hd rfl (kk ls hl0))
theorem xt_ineg {x : Int32} (hd : decode d.2.1 pc = .ok (.ineg, 1)) (k : T h d (pc + 1) lv (.int (-x) :: st) M Q) : T h d pc lv (.int x :: st) M Q :=
  k.go (fun p l e R s m args below meth c H locs cells slots Q ad ls hx hb hl0 hw ht kk => lv_ineg hx hb hd (kk ls hl0))
theorem xt_ladd {x y : Int64} (hd : decode d.2.1 pc = .ok (.ladd, 1)) (k : T h d (pc + 1) lv (.long (x + y) :: st) M Q) : T h d pc lv (.long y :: .long x :: st) M Q :=
  k.go (fun p l e R s m args below meth c H locs cells slots Q ad ls hx hb hl0 hw ht kk => lv_ladd hx hb hd (kk ls hl0))
theorem xt_lsub {x y : Int64} (hd : decode d.2.1 pc = .ok (.lsub, 1)) (k : T h d (pc + 1) lv (.long (x - y) :: st) M Q) : T h d pc lv (.long y :: .long x :: st) M Q :=
  k.go (fun p l e R s m args below meth c H locs cells slots Q ad ls hx hb hl0 hw ht kk => lv_lsub hx hb hd (kk ls hl0))
theorem xt_lmul {x y : Int64} (hd : decode d.2.1 pc = .ok (.lmul, 1)) (k : T h d (pc + 1) lv (.long (x * y) :: st) M Q) : T h d pc lv (.long y :: .long x :: st) M Q :=
  k.go (fun p l e R s m args below meth c H locs cells slots Q ad ls hx hb hl0 hw ht kk => lv_lmul hx hb hd (kk ls hl0))
theorem xt_lneg {x : Int64} (hd : decode d.2.1 pc = .ok (.lneg, 1)) (k : T h d (pc + 1) lv (.long (-x) :: st) M Q) : T h d pc lv (.long x :: st) M Q :=
  k.go (fun p l e R s m args below meth c H locs cells slots Q ad ls hx hb hl0 hw ht kk => lv_lneg hx hb hd (kk ls hl0))
theorem xt_idiv {x y : Int32} (hd : decode d.2.1 pc = .ok (.idiv, 1)) (hne : ¬ y = 0) (k : T h d (pc + 1) lv (.int (x / y) :: st) M Q) : T h d pc lv (.int y :: .int x :: st) M Q :=
  k.go (fun p l e R s m args below meth c H locs cells slots Q ad ls hx hb hl0 hw ht kk => lv_idiv hx hb hd hne (kk ls hl0))
theorem xt_irem {x y : Int32} (hd : decode d.2.1 pc = .ok (.irem, 1)) (hne : ¬ y = 0) (k : T h d (pc + 1) lv (.int (x - x / y * y) :: st) M Q) : T h d pc lv (.int y :: .int x :: st) M Q :=
  k.go (fun p l e R s m args below meth c H locs cells slots Q ad ls hx hb hl0 hw ht kk => lv_irem hx hb hd hne (kk ls hl0))
theorem xt_ldiv {x y : Int64} (hd : decode d.2.1 pc = .ok (.ldiv, 1)) (hne : ¬ y = 0) (k : T h d (pc + 1) lv (.long (x / y) :: st) M Q) : T h d pc lv (.long y :: .long x :: st) M Q :=
  k.go (fun p l e R s m args below meth c H locs cells slots Q ad ls hx hb hl0 hw ht kk => lv_ldiv hx hb hd hne (kk ls hl0))
theorem xt_lrem {x y : Int64} (hd : decode d.2.1 pc = .ok (.lrem, 1)) (hne : ¬ y = 0) (k : T h d (pc + 1) lv (.long (x - x / y * y) :: st) M Q) : T h d pc lv (.long y :: .long x :: st) M Q :=
  k.go (fun p l e R s m args below meth c H locs cells slots Q ad ls hx hb hl0 hw ht kk => lv_lrem hx hb hd hne (kk ls hl0))
theorem xt_i2l {x : Int32} (hd : decode d.2.1 pc = .ok (.i2l, 1)) (k : T h d (pc + 1) lv (.long x.toInt64 :: st) M Q) : T h d pc lv (.int x :: st) M Q :=
  k.go (fun p l e R s m args below meth c H locs cells slots Q ad ls hx hb hl0 hw ht kk => lv_i2l hx hb hd rfl (kk ls hl0))
theorem xt_l2i {x : Int64} (hd : decode d.2.1 pc = .ok (.l2i, 1)) (k : T h d (pc + 1) lv (.int x.toInt32 :: st) M Q) : T h d pc lv (.long x :: st) M Q :=
  k.go (fun p l e R s m args below meth c H locs cells slots Q ad ls hx hb hl0 hw ht kk => lv_l2i hx hb hd rfl (kk ls hl0))
theorem xt_i2b {x : Int32} (hd : decode d.2.1 pc = .ok (.i2b, 1)) (k : T h d (pc + 1) lv (.int x.toInt8.toInt32 :: st) M Q) : T h d pc lv (.int x :: st) M Q :=
  k.go (fun p l e R s m args below meth c H locs cells slots Q ad ls hx hb hl0 hw ht kk => lv_i2b hx hb hd rfl (kk ls hl0))
theorem xt_i2c {x : Int32} (hd : decode d.2.1 pc = .ok (.i2c, 1)) (k : T h d (pc + 1) lv (.int (x.toUInt32 % 65536).toInt32 :: st) M Q) : T h d pc lv (.int x :: st) M Q :=
  k.go (fun p l e R s m args below meth c H locs cells slots Q ad ls hx hb hl0 hw ht kk => lv_i2c hx hb hd rfl (kk ls hl0))
theorem xt_lcmp {x y : Int64} (hd : decode d.2.1 pc = .ok (.lcmp, 1)) (k : T h d (pc + 1) lv (.int (lg_cmp x y) :: st) M Q) : T h d pc lv (.long y :: .long x :: st) M Q :=
  k.go (fun p l e R s m args below meth c H locs cells slots Q ad ls hx hb hl0 hw ht kk => W.lcmp hx hb hd (kk ls hl0))
theorem xt_dup {v : Value} (hd : decode d.2.1 pc = .ok (.dup, 1)) (hc : v.category = 1) (k : T h d (pc + 1) lv (v :: v :: st) M Q) : T h d pc lv (v :: st) M Q :=
  k.go (fun p l e R s m args below meth c H locs cells slots Q ad ls hx hb hl0 hw ht kk => lv_dup hx hb hd (by rw [cv_cat]; exact hc) (kk ls hl0))
theorem xt_pop {v : Value} (hd : decode d.2.1 pc = .ok (.pop, 1)) (hc : v.category = 1) (k : T h d (pc + 1) lv (st) M Q) : T h d pc lv (v :: st) M Q :=
  k.go (fun p l e R s m args below meth c H locs cells slots Q ad ls hx hb hl0 hw ht kk => lv_pop hx hb hd (by rw [cv_cat]; exact hc) (kk ls hl0))
theorem xt_dup2 {v w : Value} (hd : decode d.2.1 pc = .ok (.dup2, 1)) (hc : v.category = 1) (hc2 : w.category = 1) (k : T h d (pc + 1) lv (v :: w :: v :: w :: st) M Q) : T h d pc lv (v :: w :: st) M Q :=
  k.go (fun p l e R s m args below meth c H locs cells slots Q ad ls hx hb hl0 hw ht kk => lv_dup2_11 hx hb hd (by rw [cv_cat]; exact hc) (by rw [cv_cat]; exact hc2) (kk ls hl0))
theorem xt_dup_x1 {v w : Value} (hd : decode d.2.1 pc = .ok (.dup_x1, 1)) (hc : v.category = 1) (hc2 : w.category = 1) (k : T h d (pc + 1) lv (v :: w :: v :: st) M Q) : T h d pc lv (v :: w :: st) M Q :=
  k.go (fun p l e R s m args below meth c H locs cells slots Q ad ls hx hb hl0 hw ht kk => lv_dup_x1 hx hb hd (by rw [cv_cat]; exact hc) (by rw [cv_cat]; exact hc2) (kk ls hl0))
theorem xt_goto {off : Int} {tgt : Nat} (hd : decode d.2.1 pc = .ok (.goto off, 3)) (ht : (pc : Int) + off = (tgt : Int)) (k : T h d tgt lv st M Q) : T h d pc lv st M Q :=
  k.go (fun p l e R s m args below meth c H locs cells slots Q ad ls hx hb hl0 hw ht2 kk => lv_goto hx hb hd ht (kk ls hl0))
theorem xt_if_eq {x : Int32} {off : Int} {tgt : Nat} (hd : decode d.2.1 pc = .ok (.ifCond .eq off, 3)) (ht : (pc : Int) + off = (tgt : Int)) (kt : x = 0 → T h d tgt lv st M Q) (kf : ¬ x = 0 → T h d (pc + 3) lv st M Q) : T h d pc lv (.int x :: st) M Q := by
  by_cases hc : x = 0
  · exact (kt hc).go (fun p l e R s m args below meth c H locs cells slots Q ad ls hx hb hl0 hw ht2 kk => lv_if_eq hx hb hd ht (fun _ => kk ls hl0) (fun q => absurd hc q))
  · exact (kf hc).go (fun p l e R s m args below meth c H locs cells slots Q ad ls hx hb hl0 hw ht2 kk => lv_if_eq hx hb hd ht (fun q => absurd q hc) (fun _ => kk ls hl0))
theorem xt_if_lt {x : Int32} {off : Int} {tgt : Nat} (hd : decode d.2.1 pc = .ok (.ifCond .lt off, 3)) (ht : (pc : Int) + off = (tgt : Int)) (kt : x < 0 → T h d tgt lv st M Q) (kf : ¬ x < 0 → T h d (pc + 3) lv st M Q) : T h d pc lv (.int x :: st) M Q := by
  by_cases hc : x < 0
  · exact (kt hc).go (fun p l e R s m args below meth c H locs cells slots Q ad ls hx hb hl0 hw ht2 kk => lv_if_lt hx hb hd ht (fun _ => kk ls hl0) (fun q => absurd hc q))
  · exact (kf hc).go (fun p l e R s m args below meth c H locs cells slots Q ad ls hx hb hl0 hw ht2 kk => lv_if_lt hx hb hd ht (fun q => absurd q hc) (fun _ => kk ls hl0))
theorem xt_if_ge {x : Int32} {off : Int} {tgt : Nat} (hd : decode d.2.1 pc = .ok (.ifCond .ge off, 3)) (ht : (pc : Int) + off = (tgt : Int)) (kt : 0 ≤ x → T h d tgt lv st M Q) (kf : ¬ 0 ≤ x → T h d (pc + 3) lv st M Q) : T h d pc lv (.int x :: st) M Q := by
  by_cases hc : 0 ≤ x
  · exact (kt hc).go (fun p l e R s m args below meth c H locs cells slots Q ad ls hx hb hl0 hw ht2 kk => lv_if_ge hx hb hd ht (fun _ => kk ls hl0) (fun q => absurd hc q))
  · exact (kf hc).go (fun p l e R s m args below meth c H locs cells slots Q ad ls hx hb hl0 hw ht2 kk => lv_if_ge hx hb hd ht (fun q => absurd q hc) (fun _ => kk ls hl0))
theorem xt_if_gt {x : Int32} {off : Int} {tgt : Nat} (hd : decode d.2.1 pc = .ok (.ifCond .gt off, 3)) (ht : (pc : Int) + off = (tgt : Int)) (kt : 0 < x → T h d tgt lv st M Q) (kf : ¬ 0 < x → T h d (pc + 3) lv st M Q) : T h d pc lv (.int x :: st) M Q := by
  by_cases hc : 0 < x
  · exact (kt hc).go (fun p l e R s m args below meth c H locs cells slots Q ad ls hx hb hl0 hw ht2 kk => lv_if_gt hx hb hd ht (fun _ => kk ls hl0) (fun q => absurd hc q))
  · exact (kf hc).go (fun p l e R s m args below meth c H locs cells slots Q ad ls hx hb hl0 hw ht2 kk => lv_if_gt hx hb hd ht (fun q => absurd q hc) (fun _ => kk ls hl0))
theorem xt_if_le {x : Int32} {off : Int} {tgt : Nat} (hd : decode d.2.1 pc = .ok (.ifCond .le off, 3)) (ht : (pc : Int) + off = (tgt : Int)) (kt : x ≤ 0 → T h d tgt lv st M Q) (kf : ¬ x ≤ 0 → T h d (pc + 3) lv st M Q) : T h d pc lv (.int x :: st) M Q := by
  by_cases hc : x ≤ 0
  · exact (kt hc).go (fun p l e R s m args below meth c H locs cells slots Q ad ls hx hb hl0 hw ht2 kk => lv_if_le hx hb hd ht (fun _ => kk ls hl0) (fun q => absurd hc q))
  · exact (kf hc).go (fun p l e R s m args below meth c H locs cells slots Q ad ls hx hb hl0 hw ht2 kk => lv_if_le hx hb hd ht (fun q => absurd q hc) (fun _ => kk ls hl0))
theorem xt_icmp_eq {x y : Int32} {off : Int} {tgt : Nat} (hd : decode d.2.1 pc = .ok (.if_icmp .eq off, 3)) (ht : (pc : Int) + off = (tgt : Int)) (kt : x = y → T h d tgt lv st M Q) (kf : ¬ (x = y) → T h d (pc + 3) lv st M Q) : T h d pc lv (.int y :: .int x :: st) M Q := by
  by_cases hc : x = y
  · exact (kt hc).go (fun p l e R s m args below meth c H locs cells slots Q ad ls hx hb hl0 hw ht2 kk => lv_icmp_eq hx hb hd ht (fun _ => kk ls hl0) (fun q => absurd hc q))
  · exact (kf hc).go (fun p l e R s m args below meth c H locs cells slots Q ad ls hx hb hl0 hw ht2 kk => lv_icmp_eq hx hb hd ht (fun q => absurd q hc) (fun _ => kk ls hl0))
theorem xt_icmp_lt {x y : Int32} {off : Int} {tgt : Nat} (hd : decode d.2.1 pc = .ok (.if_icmp .lt off, 3)) (ht : (pc : Int) + off = (tgt : Int)) (kt : x < y → T h d tgt lv st M Q) (kf : ¬ (x < y) → T h d (pc + 3) lv st M Q) : T h d pc lv (.int y :: .int x :: st) M Q := by
  by_cases hc : x < y
  · exact (kt hc).go (fun p l e R s m args below meth c H locs cells slots Q ad ls hx hb hl0 hw ht2 kk => lv_icmp_lt hx hb hd ht (fun _ => kk ls hl0) (fun q => absurd hc q))
  · exact (kf hc).go (fun p l e R s m args below meth c H locs cells slots Q ad ls hx hb hl0 hw ht2 kk => lv_icmp_lt hx hb hd ht (fun q => absurd q hc) (fun _ => kk ls hl0))
theorem xt_icmp_ge {x y : Int32} {off : Int} {tgt : Nat} (hd : decode d.2.1 pc = .ok (.if_icmp .ge off, 3)) (ht : (pc : Int) + off = (tgt : Int)) (kt : y ≤ x → T h d tgt lv st M Q) (kf : ¬ (y ≤ x) → T h d (pc + 3) lv st M Q) : T h d pc lv (.int y :: .int x :: st) M Q := by
  by_cases hc : y ≤ x
  · exact (kt hc).go (fun p l e R s m args below meth c H locs cells slots Q ad ls hx hb hl0 hw ht2 kk => lv_icmp_ge hx hb hd ht (fun _ => kk ls hl0) (fun q => absurd hc q))
  · exact (kf hc).go (fun p l e R s m args below meth c H locs cells slots Q ad ls hx hb hl0 hw ht2 kk => lv_icmp_ge hx hb hd ht (fun q => absurd q hc) (fun _ => kk ls hl0))
theorem xt_icmp_gt {x y : Int32} {off : Int} {tgt : Nat} (hd : decode d.2.1 pc = .ok (.if_icmp .gt off, 3)) (ht : (pc : Int) + off = (tgt : Int)) (kt : y < x → T h d tgt lv st M Q) (kf : ¬ (y < x) → T h d (pc + 3) lv st M Q) : T h d pc lv (.int y :: .int x :: st) M Q := by
  by_cases hc : y < x
  · exact (kt hc).go (fun p l e R s m args below meth c H locs cells slots Q ad ls hx hb hl0 hw ht2 kk => lv_icmp_gt hx hb hd ht (fun _ => kk ls hl0) (fun q => absurd hc q))
  · exact (kf hc).go (fun p l e R s m args below meth c H locs cells slots Q ad ls hx hb hl0 hw ht2 kk => lv_icmp_gt hx hb hd ht (fun q => absurd q hc) (fun _ => kk ls hl0))
theorem xt_icmp_le {x y : Int32} {off : Int} {tgt : Nat} (hd : decode d.2.1 pc = .ok (.if_icmp .le off, 3)) (ht : (pc : Int) + off = (tgt : Int)) (kt : x ≤ y → T h d tgt lv st M Q) (kf : ¬ (x ≤ y) → T h d (pc + 3) lv st M Q) : T h d pc lv (.int y :: .int x :: st) M Q := by
  by_cases hc : x ≤ y
  · exact (kt hc).go (fun p l e R s m args below meth c H locs cells slots Q ad ls hx hb hl0 hw ht2 kk => lv_icmp_le hx hb hd ht (fun _ => kk ls hl0) (fun q => absurd hc q))
  · exact (kf hc).go (fun p l e R s m args below meth c H locs cells slots Q ad ls hx hb hl0 hw ht2 kk => lv_icmp_le hx hb hd ht (fun q => absurd q hc) (fun _ => kk ls hl0))
theorem xt_if_ne {x : Int32} {off : Int} {tgt : Nat} (hd : decode d.2.1 pc = .ok (.ifCond .ne off, 3)) (ht : (pc : Int) + off = (tgt : Int)) (kt : ¬ x = 0 → T h d tgt lv st M Q) (kf : x = 0 → T h d (pc + 3) lv st M Q) : T h d pc lv (.int x :: st) M Q := by
  by_cases hc : x = 0
  · exact (kf hc).go (fun p l e R s m args below meth c H locs cells slots Q ad ls hx hb hl0 hw ht2 kk => lv_if_ne hx hb hd ht (fun q => absurd hc q) (fun _ => kk ls hl0))
  · exact (kt hc).go (fun p l e R s m args below meth c H locs cells slots Q ad ls hx hb hl0 hw ht2 kk => lv_if_ne hx hb hd ht (fun _ => kk ls hl0) (fun q => absurd q hc))
theorem xt_icmp_ne {x y : Int32} {off : Int} {tgt : Nat} (hd : decode d.2.1 pc = .ok (.if_icmp .ne off, 3)) (ht : (pc : Int) + off = (tgt : Int)) (kt : ¬ x = y → T h d tgt lv st M Q) (kf : x = y → T h d (pc + 3) lv st M Q) : T h d pc lv (.int y :: .int x :: st) M Q := by
  by_cases hc : x = y
  · exact (kf hc).go (fun p l e R s m args below meth c H locs cells slots Q ad ls hx hb hl0 hw ht2 kk => lv_icmp_ne hx hb hd ht (fun q => absurd hc q) (fun _ => kk ls hl0))
  · exact (kt hc).go (fun p l e R s m args below meth c H locs cells slots Q ad ls hx hb hl0 hw ht2 kk => lv_icmp_ne hx hb hd ht (fun _ => kk ls hl0) (fun q => absurd q hc))
theorem xt_ifnull {x : Nat} {off : Int} (hd : decode d.2.1 pc = .ok (.ifnull off, 3)) (k : T h d (pc + 3) lv (st) M Q) : T h d pc lv (.ref x :: st) M Q :=
  k.go (fun p l e R s m args below meth c H locs cells slots Q ad ls hx hb hl0 hw ht kk => lv_ifnull hx hb hd (kk ls hl0))
theorem xt_ifnonnullN {off : Int} (hd : decode d.2.1 pc = .ok (.ifnonnull off, 3)) (k : T h d (pc + 3) lv (st) M Q) : T h d pc lv (.null :: st) M Q :=
  k.go (fun p l e R s m args below meth c H locs cells slots Q ad ls hx hb hl0 hw ht kk => lv_ifnonnullN hx hb hd (kk ls hl0))
theorem xt_ifnonnull {x : Nat} {off : Int} {tgt : Nat} (hd : decode d.2.1 pc = .ok (.ifnonnull off, 3)) (ht : (pc : Int) + off = (tgt : Int)) (k : T h d tgt lv st M Q) : T h d pc lv (.ref x :: st) M Q :=
  k.go (fun p l e R s m args below meth c H locs cells slots Q ad ls hx hb hl0 hw ht2 kk => lv_ifnonnull hx hb hd ht (kk ls hl0))
theorem xt_ifnullN {off : Int} {tgt : Nat} (hd : decode d.2.1 pc = .ok (.ifnull off, 3)) (ht : (pc : Int) + off = (tgt : Int)) (k : T h d tgt lv st M Q) : T h d pc lv (.null :: st) M Q :=
  k.go (fun p l e R s m args below meth c H locs cells slots Q ad ls hx hb hl0 hw ht2 kk => lv_ifnullN hx hb hd ht (kk ls hl0))
theorem xt_tableIn {dflt lo hi : Int} {offs : Array Int} {len : Nat} {x : Int32} {off : Int} {tgt : Nat} (hd : decode d.2.1 pc = .ok (.tableswitch dflt lo hi offs, len)) (h1 : ¬ x.toInt < lo) (h2 : ¬ hi < x.toInt) (ho : offs[(x.toInt - lo).toNat]? = some off) (ht : (pc : Int) + off = (tgt : Int)) (k : T h d tgt lv st M Q) : T h d pc lv (.int x :: st) M Q :=
  k.go (fun p l e R s m args below meth c H locs cells slots Q ad ls hx hb hl0 hw ht2 kk => lv_tableIn hx hb hd h1 h2 ho ht (kk ls hl0))
theorem xt_tableOut {dflt lo hi : Int} {offs : Array Int} {len : Nat} {x : Int32} {tgt : Nat} (hd : decode d.2.1 pc = .ok (.tableswitch dflt lo hi offs, len)) (h1 : x.toInt < lo ∨ hi < x.toInt) (ht : (pc : Int) + dflt = (tgt : Int)) (k : T h d tgt lv st M Q) : T h d pc lv (.int x :: st) M Q :=
  k.go (fun p l e R s m args below meth c H locs cells slots Q ad ls hx hb hl0 hw ht2 kk => lv_tableOut hx hb hd h1 ht (kk ls hl0))
theorem xt_lookup {dflt : Int} {ps : Array (Int × Int)} {len : Nat} {x : Int32} {off : Int} {tgt : Nat} (hd : decode d.2.1 pc = .ok (.lookupswitch dflt ps, len)) (hp : (ps.toList.zip (ps.toList.drop 1)).all (fun (a, next) => a.1 < next.1) = true) (ho : Op.lookupswitch.offset ps.toList dflt x.toInt = off) (ht : (pc : Int) + off = (tgt : Int)) (k : T h d tgt lv st M Q) : T h d pc lv (.int x :: st) M Q :=
  k.go (fun p l e R s m args below meth c H locs cells slots Q ad ls hx hb hl0 hw ht2 kk => lv_lookup hx hb hd hp ho ht (kk ls hl0))
theorem xt_ldc {index : Nat} {v : Int32} (hd : decode d.2.1 pc = .ok (.ldc index, 2)) (hm : Cond.constant d.1.cls index v ∈ TB) (k : T h d (pc + 2) lv (.int v :: st) M Q) : T h d pc lv (st) M Q :=
  k.go (fun p l e R s m args below meth c H locs cells slots Q ad ls hx hb hl0 hw ht kk => lv_ldc hx hb hw (ht _ hm) hd (kk ls hl0))
theorem xt_ldc2 {index : Nat} {v : Int64} (hd : decode d.2.1 pc = .ok (.ldc2_w index, 3)) (hm : Cond.constantLong d.1.cls index v ∈ TB) (k : T h d (pc + 3) lv (.long v :: st) M Q) : T h d pc lv (st) M Q :=
  k.go (fun p l e R s m args below meth c H locs cells slots Q ad ls hx hb hl0 hw ht kk => lv_ldc2 hx hb hw (ht _ hm) hd (kk ls hl0))
end TR
