/-! lists that grow: class objects, arrays of references -/
section
variable {h : Nat} {d : MD} {pc : Nat} {lv : List (Nat × Value)} {st : List Value} {M : Mem} {Q : Option Value → Mem → Prop}
theorem rowO_cell {s : State} {H : Heap} {D : va_G} {cy : Nat → ClassId} {ad : Nat → Nat} {a : Nat} (hK : va_K D vwCl (mT cy) s) (hP : va_P D vwCl (mW cy ad M) H) (ha : ok M a 24) : ∃ cell : Cell, H[ad a]? = some cell ∧ cell.vm.isStatics = false ∧ s.vm.findClass "[Ljava/lang/Object;" = some cell.cls := by
  have e := hP a _ ((mW_at ha.1).trans (by rw [cE_arrR ha.2 (by decide)]))
  exact ⟨_, e, rfl, va_nmO (hK.2 4 _ rfl).2 rfl⟩
theorem xt_getC {a : Nat} (hd : decode d.2.1 pc = .ok (.invokevirtual 86, 3)) (hc : d.1.cls = RJ7) (ha : ok M a 24) (hh : 1 ≤ h) (hcat : (st.map fun v => v.category).sum ≤ 8) (kk : T h d (pc + 3) lv (.ref (mBig + 11) :: st) M Q) : T h d pc lv (.ref a :: st) M Q := by
  obtain ⟨r, M', hv, hq⟩ := kk
  refine ⟨r, M', ⟨hv.1, fun hbg p l e s m args below meth c D cy A M0 ba sp0 H locs ls X q1 hP hD hS hl => ?_⟩, hq⟩
  have hts := X.2.2.2.2.2.2.2.1
  have hZ := X.2.2.2.2.2.2.2.2.2.2.2.1.2
  have w := hv.2 hbg p l e s m args below meth c D cy A M0 ba sp0 H locs ls X q1 hP hD hS hl
  rw [cv_sp] at w
  have hK := X.2.2.2.2.2.2.2.2.1
  exact va_getC (C := "[Ljava/lang/Object;") X.1 X.2.1 (by rw [X.2.2.1, hl.1]) X.2.2.2.1 (hts _ (by rw [hc]; exact tbL tbk_4 107 (by decide +kernel) rfl)) hZ.2.2.2.2.2.2.2.2.1.use (hts _ (tbL tbk_12 2 (by decide +kernel) rfl)) (hts _ (tbL tbk_4 108 (by decide +kernel) rfl)) (hts _ (tbL tbk_4 124 (by decide +kernel) rfl)) hZ.2.2.2.2.2.2.2.1 (rowO_cell hK hP ha) hh (by rw [cat_sum]; show _ + 14 ≤ 120 * h; omega) hd w
theorem xt_ldcO (hd : decode d.2.1 pc = .ok (.ldc 110, 2)) (hc : d.1.cls = RJ7) (kk : T h d (pc + 2) lv (.ref (mBig + 11) :: st) M Q) : T h d pc lv st M Q :=
  kk.rdS (fun p l e R s m args below meth c D cy ba sp A H locs cells slots Q ls hx hb hw hts hK hP hS hZ hG w => by
    rw [cv_sp] at w
    exact va_ldcM hx hb hw (hts _ (by rw [hc]; exact tbL tbk_4 128 (by decide +kernel) rfl)) hZ.2.2.2.2.2.2.2.1 hd w)
theorem xt_acmpN {a : Nat} {off : Int} {tgt : Nat} (hd : decode d.2.1 pc = .ok (.if_acmp .ne off, 3)) (ht : (pc : Int) + off = (tgt : Int)) (kk : T h d (pc + 3) lv st M Q) : T h d pc lv (.ref a :: .ref a :: st) M Q :=
  kk.go (fun p l e R s m args below meth c H locs cells slots Q ad ls hx hb hl0 hw ht2 k2 => lv_acmp_ne (rx := some (ad a)) (ry := some (ad a)) hx hb hd ht (fun q => absurd rfl q) (fun _ => k2 ls hl0))
theorem T.mkS {pc' n : Nat} {rest : List Value} {M2 : Mem} (k : T h d pc' lv (.ref (mN M) :: rest) M2 Q) (hE : mE M M2) (hn : mN M2 = mN M + 1) (hs : mS M2 = mS M + n) (hold : ∀ (cy : Nat → ClassId) (ad : Nat → Nat) (b : Nat), b < mN M → cE cy ad M2 b = cE cy ad M b)
    (step : ∀ (p : Program) (l : Launch) (e : Env) (R : Room) (s : State) (m : MethodId) (args : Array Value) (below : List Frame) (meth : Method) (c : Code) (D : va_G) (cy : Nat → ClassId) (ad : Nat → Nat) (sp : Nat → Nat) (A : Nat → Prop) (H : Heap) (locs : List Loc) (cells slots : Nat) (Q : State → Prop) (ls : Array Slot), p.tables.exec = Jvm.exec → c.code = d.2.1 → s.vm.findClass d.1.cls = some m.cls → (∀ w ∈ TB, w.before args s = true) → va_K D vwCl (mT cy) s → va_P D vwCl (mW cy ad M) H → va_D A (mW cy ad M) → va_S A s.heap H locs → (∀ q, s.heap.size ≤ q → A q) → SPH sp A s → cells + 1 ≤ R.cells → slots + n ≤ R.slots →
      (∀ (q : Nat) (H1 : Heap), va_P D vwCl (mW cy ad M ++ [(q, cE cy ad M2 (mN M))]) H1 → va_D A (mW cy ad M ++ [(q, cE cy ad M2 (mN M))]) → va_S A s.heap H1 locs → W p l e R s m args below meth c H1 locs (cells + 1) (slots + n) Q (F0 m pc' ls (.ref q :: rest.map (cv ad)))) → W p l e R s m args below meth c H locs cells slots Q (F0 m pc ls (st.map (cv ad)))) : T h d pc lv st M Q := by
  obtain ⟨r, M', hv, hq⟩ := k
  refine ⟨r, M', ⟨hE.tr hv.1, fun hb p l e s m args below meth c D cy A M0 ba sp H locs ls X h1 hP hD hS hl => ?_⟩, hq⟩
  have g1 := hv.1.1
  have g2 := hv.1.2.1
  rw [hn] at g1
  rw [hs] at g2
  refine step p l e _ s m args below meth c D cy (adf ba sp) sp A H locs _ _ _ ls X.1 X.2.1 X.2.2.2.1 X.2.2.2.2.2.2.2.1 X.2.2.2.2.2.2.2.2.1 hP hD hS X.2.2.2.2.2.2.2.2.2.1 X.2.2.2.2.2.2.2.2.2.2.2.1.2 (by show _ ≤ mN M' - mN M0; omega) (by show _ ≤ mS M' - mS M0; omega) (fun q H1 hP1 hD1 hS1 => ?_)
  refine W.bound (fun hz => ?_)
  have hsz := X.2.2.2.2.2.2.2.2.2.2.1
  have hqq : q = adf ba sp (mN M) := next_at (by omega) X.2.2.2.2.2.2.2.2.2.2.2.2.1 hP1 hD1 (by omega)
  subst hqq
  have e1 := mW_push (cy := cy) (ad := adf ba sp) (ad2 := adf ba sp) hn (fun b hb2 => ⟨rfl, hold cy (adf ba sp) b hb2⟩)
  rw [e1] at hP1 hD1
  have w := hv.2 hb p l e s m args below meth c D cy A M0 ba sp H1 locs ls X ⟨by omega, by omega⟩ hP1 hD1 hS1 hl
  rw [hn, hs, show mN M + 1 - mN M0 = mN M - mN M0 + 1 by omega, show mS M + n - mS M0 = mS M - mS M0 + n by omega] at w
  exact w
theorem cE_newR {cy : Nat → ClassId} {ad : Nat → Nat} {N : Nat} : cE cy ad (nwA M 24 N) (mN M) = .inl (cy 24, N, .inr (.inr (.inr (.inr (fun _ => none))))) := by
  rw [cE_arrR (M := nwA M 24 N) (a := mN M) (kd := 24) (va_up_self _ _ _) (by decide)]
  show Sum.inl (cy 24, va_up (mL M) (mN M) N (mN M), Sum.inr (Sum.inr (Sum.inr (Sum.inr (fun i => (va_up (mAR M) (mN M) (fun _ => none) (mN M) i).map ad))))) = _
  rw [va_up_self, va_up_self]
  rfl
theorem xt_newO {n : Int32} {N idx : Nat} (hd : decode d.2.1 pc = .ok (.anewarray idx, 3)) (hc : Cond.classLink d.1.cls idx "java/lang/Object" ∈ TB) (hn : ¬ n < 0) (hN : n.toNatClampNeg = N) (hby : N ≤ 100000000) (kk : T h d (pc + 3) lv (.ref (mN M) :: st) (nwA M 24 N) Q) : T h d pc lv (.int n :: st) M Q :=
  kk.mkS (n := N) mE_nwA rfl rfl (fun cy ad b hb => cE_nwA_old hb) (fun p l e R s m args below meth c D cy ad sp A H locs cells slots Q ls hx hb hw2 hts hK hP hD hS hA hZ hcl hsl w => by
    refine va_newq (C := "java/lang/Object") hx hb hw2 (hts _ hc) hZ.2.2.2.2.2.2.2.2.2.1 hK hP hD hS hA hn hN (by omega) hcl hsl hd (fun q cA H1 hK1 hP1 hD1 hS1 => ?_)
    have g1 := (hK1.2 (mT cy).length (cA, .object "java/lang/Object") (by simp)).2
    have g2 := (hK.2 4 _ rfl).2
    have g3 : cA = cy 24 := Option.some.inj ((va_nmO g1 rfl).symm.trans (va_nmO g2 rfl))
    subst g3
    rw [← cE_newR (M := M) (ad := ad)] at hP1 hD1
    exact w q H1 hP1 hD1 hS1)
/-- what a list may hold: objects of one class, or cached Integers -/
def ELk (ci : Nat) : Prop := ci = 0 ∨ ci = 3 ∨ ci = 4 ∨ ci = 5
def ELc (M : Mem) (ci v : Nat) : Prop := ok M v ci ∨ (ci = 0 ∧ ∃ k, k < 256 ∧ v = mBig + (1000 + k))
theorem ELk.lt {ci : Nat} (h : ELk ci) : ci < 14 := by rcases h with rfl | rfl | rfl | rfl <;> decide
theorem ELk.cast {ci : Nat} (h : ELk ci) : Cond.castable (cls ci).1 "java/lang/Object" ∈ NWL := by
  rcases h with rfl | rfl | rfl | rfl
  · exact nwL tbk_12 14 (by decide +kernel) rfl
  · exact nwL tbk_12 10 (by decide +kernel) rfl
  · exact nwL tbk_12 15 (by decide +kernel) rfl
  · exact nwL tbk_12 13 (by decide +kernel) rfl
theorem el_cell {s : State} {H : Heap} {D : va_G} {cy : Nat → ClassId} {ba ci v : Nat} {sp : Nat → Nat} {A : Nat → Prop} {locs : List Loc} (hK : va_K D vwCl (mT cy) s) (hP : va_P D vwCl (mW cy (adf ba sp) M) H) (hS : va_S A s.heap H locs) (hZ : SPH sp A s) (hk : ELk ci) (hv : ELc M ci v) : ∃ cell : Cell, H[adf ba sp v]? = some cell ∧ cell.vm.isStatics = false ∧ s.vm.findClass (cls ci).1 = some cell.cls := by
  rcases hv with hv | ⟨rfl, k, hk2, rfl⟩
  · have hlt := hk.lt
    have hc1 : vwCl[ci]? = some (cls ci) := by
      unfold cls
      rw [List.getD_eq_getElem?_getD]
      have : ci < vwCl.length := hlt
      rw [List.getElem?_eq_getElem this]; rfl
    exact va_recv (s := s) (H := H) hK hP hc1 ((mW_at hv.1).trans (by rw [cE_obj hv.2 (by omega)]))
  · rw [adf_sp]
    exact va_O_now (hZ.2.2.2.2.2.1.2.2.2.1 k hk2) hS
theorem cE_wAR {cy : Nat → ClassId} {ad : Nat → Nat} {a i b : Nat} {x : Option Nat} (hb : b ≠ a) : cE cy ad (wAR M a i x) b = cE cy ad M b := by
  unfold cE
  rw [show mAR (wAR M a i x) b = mAR M b from up2_row hb]
  rfl
theorem xt_aastO {a v ci : Nat} {i : Int32} (hd : decode d.2.1 pc = .ok (.aastore, 1)) (ha : ok M a 24) (hi : vp_in i (mL M a)) (hk : ELk ci) (hv : ELc M ci v) (kk : T h d (pc + 1) lv st (wAR M a i.toNatClampNeg (some v)) Q) : T h d pc lv (.ref v :: .int i :: .ref a :: st) M Q := by
  obtain ⟨r, M', hw, hq⟩ := kk
  refine ⟨r, M', ⟨hw.1, fun hbg p l e s m args below meth c D cy A M0 ba sp0 H locs ls X q1 hP hD hS hl => ?_⟩, hq⟩
  have e3 : (fun j => (mAR (wAR M a i.toNatClampNeg (some v)) a j).map (adf ba sp0)) = va_up (fun j => (mAR M a j).map (adf ba sp0)) i.toNatClampNeg (some (adf ba sp0 v)) := by
    funext j
    show (up2 (mAR M) a i.toNatClampNeg (some v) a j).map (adf ba sp0) = _
    unfold up2 va_up
    by_cases z : j = i.toNatClampNeg
    · rw [if_pos ⟨rfl, z⟩, if_pos z]; rfl
    · rw [if_neg (fun y => z y.2), if_neg z]
  have e2 : (mW cy (adf ba sp0) M).set a (adf ba sp0 a, .inl (cy 24, mL M a, .inr (.inr (.inr (.inr (va_up (fun j => (mAR M a j).map (adf ba sp0)) i.toNatClampNeg (some (adf ba sp0 v)))))))) = mW cy (adf ba sp0) (wAR M a i.toNatClampNeg (some v)) := by
    rw [← mW_set (M := M) (M2 := wAR M a i.toNatClampNeg (some v)) rfl (fun c _ hc2 => cE_wAR hc2), cE_arrR (M := wAR M a i.toNatClampNeg (some v)) (kd := 24) ha.2 (by decide), e3]
    rfl
  have hK := X.2.2.2.2.2.2.2.2.1
  have hZ := X.2.2.2.2.2.2.2.2.2.2.2.1.2
  have hnw := X.2.2.2.2.2.2.2.2.2.2.2.1.1
  refine vb_astq X.1 X.2.1 hK hP hD hS a 4 (E := "java/lang/Object") (C := (cls ci).1) ((mW_at ha.1).trans (by rw [cE_arrR ha.2 (by decide)])) rfl (el_cell hK hP hS hZ hk hv) (fun comp c0 h1 h2 => vb_asgC (hnw _ hk.cast) comp c0 h1 h2) hi hd (fun H1 locs1 hP1 hD1 hS1 => ?_)
  rw [e2] at hP1 hD1
  exact hw.2 hbg p l e s m args below meth c D cy A M0 ba sp0 H1 locs1 ls X q1 hP1 hD1 hS1 hl
theorem xt_aastN {a : Nat} {i : Int32} (hd : decode d.2.1 pc = .ok (.aastore, 1)) (ha : ok M a 24) (hi : vp_in i (mL M a)) (kk : T h d (pc + 1) lv st (wAR M a i.toNatClampNeg none) Q) : T h d pc lv (.null :: .int i :: .ref a :: st) M Q := by
  obtain ⟨r, M', hw, hq⟩ := kk
  refine ⟨r, M', ⟨hw.1, fun hbg p l e s m args below meth c D cy A M0 ba sp0 H locs ls X q1 hP hD hS hl => ?_⟩, hq⟩
  have e3 : (fun j => (mAR (wAR M a i.toNatClampNeg none) a j).map (adf ba sp0)) = va_up (fun j => (mAR M a j).map (adf ba sp0)) i.toNatClampNeg none := by
    funext j
    show (up2 (mAR M) a i.toNatClampNeg none a j).map (adf ba sp0) = _
    unfold up2 va_up
    by_cases z : j = i.toNatClampNeg
    · rw [if_pos ⟨rfl, z⟩, if_pos z]; rfl
    · rw [if_neg (fun y => z y.2), if_neg z]
  have e2 : (mW cy (adf ba sp0) M).set a (adf ba sp0 a, .inl (cy 24, mL M a, .inr (.inr (.inr (.inr (va_up (fun j => (mAR M a j).map (adf ba sp0)) i.toNatClampNeg none)))))) = mW cy (adf ba sp0) (wAR M a i.toNatClampNeg none) := by
    rw [← mW_set (M := M) (M2 := wAR M a i.toNatClampNeg none) rfl (fun c _ hc2 => cE_wAR hc2), cE_arrR (M := wAR M a i.toNatClampNeg none) (kd := 24) ha.2 (by decide), e3]
    rfl
  have hK := X.2.2.2.2.2.2.2.2.1
  refine va_astqN X.1 X.2.1 hK hP hD hS a 4 (C := "java/lang/Object") ((mW_at ha.1).trans (by rw [cE_arrR ha.2 (by decide)])) rfl hi hd (fun H1 locs1 hP1 hD1 hS1 => ?_)
  rw [e2] at hP1 hD1
  exact hw.2 hbg p l e s m args below meth c D cy A M0 ba sp0 H1 locs1 ls X q1 hP1 hD1 hS1 hl
def wCr (M : Mem) (b a sp dp n : Nat) : Mem := (mN M, mS M, mK M, mI M, mJ M, mR M, mL M, mAI M, mAJ M, va_up (mAR M) a (va_cpy (mAR M b) (mAR M a) sp dp n))
theorem cE_wCr {cy : Nat → ClassId} {ad : Nat → Nat} {b a sp dp n c : Nat} (hc : c ≠ a) : cE cy ad (wCr M b a sp dp n) c = cE cy ad M c := by
  unfold cE
  rw [show mAR (wCr M b a sp dp n) c = mAR M c from va_up_ne _ _ hc]
  rfl
theorem xt_cpyR {a b idx ci : Nat} {sp dp n : Int32} (hd : decode d.2.1 pc = .ok (.invokestatic idx, 3)) (hm : cpw d idx) (hob : ok M b 24) (hoa : ok M a 24) (h1 : ¬ sp < 0) (h2 : ¬ dp < 0) (h3 : ¬ n < 0) (h4 : sp.toNatClampNeg + n.toNatClampNeg ≤ mL M b) (h5 : dp.toNatClampNeg + n.toNatClampNeg ≤ mL M a) (hk : ELk ci) (hel : ∀ j, j < n.toNatClampNeg → ∀ y, mAR M b (sp.toNatClampNeg + j) = some y → ELc M ci y) (hh : 1 ≤ h) (hc : (st.map fun v => v.category).sum ≤ 8) (kk : T h d (pc + 3) lv st (wCr M b a sp.toNatClampNeg dp.toNatClampNeg n.toNatClampNeg) Q) : T h d pc lv (.int n :: .int dp :: .ref a :: .int sp :: .ref b :: st) M Q := by
  obtain ⟨r, M', hv, hq⟩ := kk
  refine ⟨r, M', ⟨hv.1, fun hbg p l e s m args below meth c D cy A M0 ba sp0 H locs ls X q1 hP hD hS hl => ?_⟩, hq⟩
  have e3 : (fun j => (mAR (wCr M b a sp.toNatClampNeg dp.toNatClampNeg n.toNatClampNeg) a j).map (adf ba sp0)) = va_cpy (fun j => (mAR M b j).map (adf ba sp0)) (fun j => (mAR M a j).map (adf ba sp0)) sp.toNatClampNeg dp.toNatClampNeg n.toNatClampNeg := by
    funext j
    rw [show mAR (wCr M b a sp.toNatClampNeg dp.toNatClampNeg n.toNatClampNeg) a = va_cpy (mAR M b) (mAR M a) sp.toNatClampNeg dp.toNatClampNeg n.toNatClampNeg from va_up_self _ _ _]
    unfold va_cpy
    split <;> rfl
  have e2 : (mW cy (adf ba sp0) M).set a (adf ba sp0 a, .inl (cy 24, mL M a, .inr (.inr (.inr (.inr (va_cpy (fun j => (mAR M b j).map (adf ba sp0)) (fun j => (mAR M a j).map (adf ba sp0)) sp.toNatClampNeg dp.toNatClampNeg n.toNatClampNeg)))))) = mW cy (adf ba sp0) (wCr M b a sp.toNatClampNeg dp.toNatClampNeg n.toNatClampNeg) := by
    rw [← mW_set (M := M) (M2 := wCr M b a sp.toNatClampNeg dp.toNatClampNeg n.toNatClampNeg) rfl (fun c _ hc2 => cE_wCr hc2), cE_arrR (M := wCr M b a sp.toNatClampNeg dp.toNatClampNeg n.toNatClampNeg) (kd := 24) hoa.2 (by decide), e3]
    rfl
  have hts := X.2.2.2.2.2.2.2.1
  have hK := X.2.2.2.2.2.2.2.2.1
  have hZ := X.2.2.2.2.2.2.2.2.2.2.2.1.2
  have hnw := X.2.2.2.2.2.2.2.2.2.2.2.1.1
  refine va_copyq (C := (cls ci).1) (E0 := "java/lang/Object") (E1 := "java/lang/Object") X.1 X.2.1 (by rw [X.2.2.1, hl.1]) X.2.2.2.1 (hts _ hm.1) (hts _ hm.2.1) (hts _ hm.2.2.1) (hts _ hm.2.2.2) hK hP hD hS b a 4 4 ((mW_at hob.1).trans (by rw [cE_arrR hob.2 (by decide)])) ((mW_at hoa.1).trans (by rw [cE_arrR hoa.2 (by decide)])) rfl rfl h1 h2 h3 h4 h5 (fun j hj y hy => ?_) (fun comp c0 z1 z2 => vb_asgC (hnw _ hk.cast) comp c0 z1 z2) hh (by rw [cat_sum]; show _ + (7 + 11) ≤ 120 * h; omega) hd (fun H1 locs1 hP1 hD1 hS1 => ?_)
  · cases hz : mAR M b (sp.toNatClampNeg + j) with
    | none => rw [hz] at hy; cases hy
    | some z =>
      rw [hz] at hy
      cases hy
      exact el_cell hK hP hS hZ hk (hel j hj z hz)
  · rw [e2] at hP1 hD1
    exact hv.2 hbg p l e s m args below meth c D cy A M0 ba sp0 H1 locs1 ls X q1 hP1 hD1 hS1 hl
end
