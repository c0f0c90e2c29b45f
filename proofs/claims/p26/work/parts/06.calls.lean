/-! stores into arrays; what is new; the end of a method; contracts E of methods, and calls by them -/
theorem up2_selfI {f : Nat → Nat → Int32} {a k : Nat} {v : Int32} : up2 f a k v a = upd (f a) k v := by funext j; simp [up2, upd]
theorem up2_selfJ {f : Nat → Nat → Int64} {a k : Nat} {v : Int64} : up2 f a k v a = vp_updL (f a) k v := by funext j; simp [up2, vp_updL]
theorem W.bound {p : Program} {l : Launch} {e : Env} {R : Room} {s : State} {m : MethodId} {args : Array Value} {below : List Frame} {meth : Method} {c : Code} {H : Heap} {locs : List Loc} {cells slots : Nat} {Q : State → Prop} {g : JFrame} (kk : H.size ≤ s.heap.size + cells → W p l e R s m args below meth c H locs cells slots Q g) : W p l e R s m args below meth c H locs cells slots Q g := by
  intro T hT X
  refine kk ?_ T hT X
  obtain ⟨-, -, a3, -⟩ := X.same
  have e1 : (T.setVm s.vm).heap = T.heap := rfl
  rw [e1, hT] at a3
  omega
section CR
variable {h : Nat} {d : MD} {pc : Nat} {lv : List (Nat × Value)} {st : List Value} {M : Mem} {Q : Option Value → Mem → Prop}
theorem cE_wAI {cy : Nat → ClassId} {ad : Nat → Nat} {a i b : Nat} {x : Int32} (hb : b ≠ a) : cE cy ad (wAI M a i x) b = cE cy ad M b := by
  unfold cE
  rw [show mAI (wAI M a i x) b = mAI M b from up2_row hb]
  rfl
theorem cE_wAJ {cy : Nat → ClassId} {ad : Nat → Nat} {a i b : Nat} {x : Int64} (hb : b ≠ a) : cE cy ad (wAJ M a i x) b = cE cy ad M b := by
  unfold cE
  rw [show mAJ (wAJ M a i x) b = mAJ M b from up2_row hb]
  rfl
theorem xt_iast {a : Nat} {i x : Int32} (hd : decode d.2.1 pc = .ok (.iastore, 1)) (ha : a < mN M) (hk : mK M a = 21) (hi : vp_in i (mL M a)) (kk : T h d (pc + 1) lv st (wAI M a i.toNatClampNeg x) Q) : T h d pc lv (.int x :: .int i :: .ref a :: st) M Q :=
  kk.wr rfl rfl (fun _ _ => ⟨rfl, rfl⟩) (fun p l e R s m args below meth c D cy ad A H locs cells slots Q ls hx hb hw hin hts hK hP hD hS w => by
    have e2 : (mW cy ad M).set a (ad a, .inl (cy 21, mL M a, .inl (upd (mAI M a) i.toNatClampNeg x))) = mW cy ad (wAI M a i.toNatClampNeg x) := by
      rw [← mW_set (M := M) (M2 := wAI M a i.toNatClampNeg x) rfl (fun b _ hb2 => cE_wAI hb2), cE_arrI (M := wAI M a i.toNatClampNeg x) (kd := 21) hk (by decide) (by decide), show mAI (wAI M a i.toNatClampNeg x) a = upd (mAI M a) i.toNatClampNeg x from up2_selfI]
      rfl
    refine va_iast hx hb hK hP hD hS a 1 ((mW_at ha).trans (by rw [cE_arrI hk (by decide) (by decide)])) rfl hi hd (fun H1 locs1 hP1 hD1 hS1 => ?_)
    rw [e2] at hP1 hD1
    exact w H1 locs1 hP1 hD1 hS1)
theorem xt_bast {a : Nat} {i x : Int32} (hd : decode d.2.1 pc = .ok (.bastore, 1)) (ha : a < mN M) (hk : mK M a = 20) (hi : vp_in i (mL M a)) (kk : T h d (pc + 1) lv st (wAI M a i.toNatClampNeg (vp_nar .byte x)) Q) : T h d pc lv (.int x :: .int i :: .ref a :: st) M Q :=
  kk.wr rfl rfl (fun _ _ => ⟨rfl, rfl⟩) (fun p l e R s m args below meth c D cy ad A H locs cells slots Q ls hx hb hw hin hts hK hP hD hS w => by
    have e2 : (mW cy ad M).set a (ad a, .inl (cy 20, mL M a, .inl (upd (mAI M a) i.toNatClampNeg (vp_nar .byte x)))) = mW cy ad (wAI M a i.toNatClampNeg (vp_nar .byte x)) := by
      rw [← mW_set (M := M) (M2 := wAI M a i.toNatClampNeg (vp_nar .byte x)) rfl (fun b _ hb2 => cE_wAI hb2), cE_arrI (M := wAI M a i.toNatClampNeg (vp_nar .byte x)) (kd := 20) hk (by decide) (by decide), show mAI (wAI M a i.toNatClampNeg (vp_nar .byte x)) a = upd (mAI M a) i.toNatClampNeg (vp_nar .byte x) from up2_selfI]
      rfl
    refine va_bast hx hb hK hP hD hS a 0 ((mW_at ha).trans (by rw [cE_arrI hk (by decide) (by decide)])) rfl hi hd (fun H1 locs1 hP1 hD1 hS1 => ?_)
    rw [e2] at hP1 hD1
    exact w H1 locs1 hP1 hD1 hS1)
theorem xt_zast {a : Nat} {i x : Int32} (hd : decode d.2.1 pc = .ok (.bastore, 1)) (ha : a < mN M) (hk : mK M a = 22) (hi : vp_in i (mL M a)) (kk : T h d (pc + 1) lv st (wAI M a i.toNatClampNeg (vp_nar .boolean x)) Q) : T h d pc lv (.int x :: .int i :: .ref a :: st) M Q :=
  kk.wr rfl rfl (fun _ _ => ⟨rfl, rfl⟩) (fun p l e R s m args below meth c D cy ad A H locs cells slots Q ls hx hb hw hin hts hK hP hD hS w => by
    have e2 : (mW cy ad M).set a (ad a, .inl (cy 22, mL M a, .inl (upd (mAI M a) i.toNatClampNeg (vp_nar .boolean x)))) = mW cy ad (wAI M a i.toNatClampNeg (vp_nar .boolean x)) := by
      rw [← mW_set (M := M) (M2 := wAI M a i.toNatClampNeg (vp_nar .boolean x)) rfl (fun b _ hb2 => cE_wAI hb2), cE_arrI (M := wAI M a i.toNatClampNeg (vp_nar .boolean x)) (kd := 22) hk (by decide) (by decide), show mAI (wAI M a i.toNatClampNeg (vp_nar .boolean x)) a = upd (mAI M a) i.toNatClampNeg (vp_nar .boolean x) from up2_selfI]
      rfl
    refine va_zast hx hb hK hP hD hS a 2 ((mW_at ha).trans (by rw [cE_arrI hk (by decide) (by decide)])) rfl hi hd (fun H1 locs1 hP1 hD1 hS1 => ?_)
    rw [e2] at hP1 hD1
    exact w H1 locs1 hP1 hD1 hS1)
theorem xt_last {a : Nat} {i : Int32} {x : Int64} (hd : decode d.2.1 pc = .ok (.lastore, 1)) (ha : a < mN M) (hk : mK M a = 23) (hi : vp_in i (mL M a)) (kk : T h d (pc + 1) lv st (wAJ M a i.toNatClampNeg x) Q) : T h d pc lv (.long x :: .int i :: .ref a :: st) M Q :=
  kk.wr rfl rfl (fun _ _ => ⟨rfl, rfl⟩) (fun p l e R s m args below meth c D cy ad A H locs cells slots Q ls hx hb hw hin hts hK hP hD hS w => by
    have e2 : (mW cy ad M).set a (ad a, .inl (cy 23, mL M a, .inr (.inl (vp_updL (mAJ M a) i.toNatClampNeg x)))) = mW cy ad (wAJ M a i.toNatClampNeg x) := by
      rw [← mW_set (M := M) (M2 := wAJ M a i.toNatClampNeg x) rfl (fun b _ hb2 => cE_wAJ hb2), cE_arrJ (M := wAJ M a i.toNatClampNeg x) hk, show mAJ (wAJ M a i.toNatClampNeg x) a = vp_updL (mAJ M a) i.toNatClampNeg x from up2_selfJ]
      rfl
    refine va_last hx hb hK hP hD hS a 3 ((mW_at ha).trans (by rw [cE_arrJ hk])) rfl hi hd (fun H1 locs1 hP1 hD1 hS1 => ?_)
    rw [e2] at hP1 hD1
    exact w H1 locs1 hP1 hD1 hS1)
/-- where the next cell comes to lie -/
theorem next_at {cy : Nat → ClassId} {ba : Nat} {sp : Nat → Nat} {A : Nat → Prop} {D : va_G} {H1 : Heap} {q : Nat} {en : va_E} (hb : mN M < mBig) (hA : ∀ q, A q → ba ≤ q) (hP : va_P D vwCl (mW cy (adf ba sp) M ++ [(q, en)]) H1) (hD : va_D A (mW cy (adf ba sp) M ++ [(q, en)])) (hz : H1.size ≤ ba + mN M + 1) : q = adf ba sp (mN M) := by
  have e1 : (mW cy (adf ba sp) M ++ [(q, en)])[mN M]? = some (q, en) := by
    rw [List.getElem?_append_right (by rw [mW_len]; exact Nat.le_refl _), mW_len, Nat.sub_self]; rfl
  have h1 : ba ≤ q := hA q (hD.2 (mN M) _ e1)
  have h2 : q < H1.size := (hP (mN M) _ e1).lt
  have h3 : adf ba sp (mN M) = ba + mN M := if_pos hb
  rw [h3]
  by_cases h4 : q < ba + mN M
  · exfalso
    have h5 : q - ba < mN M := by omega
    have e2 : (mW cy (adf ba sp) M ++ [(q, en)])[q - ba]? = some (adf ba sp (q - ba), cE cy (adf ba sp) M (q - ba)) := by
      rw [List.getElem?_append_left (by rw [mW_len]; exact h5), mW_at h5]
    have e3 : adf ba sp (q - ba) = q := by unfold adf; rw [if_pos (by omega)]; omega
    have := hD.1 _ _ _ _ e1 e2 (by show q = adf ba sp (q - ba); rw [e3])
    omega
  · omega
theorem cE_nwO_old {cy : Nat → ClassId} {ad : Nat → Nat} {ci n b : Nat} (hb : b < mN M) : cE cy ad (nwO M ci n) b = cE cy ad M b := by
  have hne : b ≠ mN M := Nat.ne_of_lt hb
  have k1 : mK (nwO M ci n) b = mK M b := va_up_ne _ _ hne
  have k2 : mI (nwO M ci n) b = mI M b := va_up_ne _ _ hne
  have k3 : mJ (nwO M ci n) b = mJ M b := va_up_ne _ _ hne
  have k4 : mR (nwO M ci n) b = mR M b := va_up_ne _ _ hne
  have k5 : ∀ c, fV ad (nwO M ci n) c b = fV ad M c b := fun c => by funext j; unfold fV; rw [k2, k3, k4]
  unfold cE
  rw [k1, k5]
  rfl
theorem cE_nwA_old {cy : Nat → ClassId} {ad : Nat → Nat} {kd n b : Nat} (hb : b < mN M) : cE cy ad (nwA M kd n) b = cE cy ad M b := by
  have hne : b ≠ mN M := Nat.ne_of_lt hb
  have k1 : mK (nwA M kd n) b = mK M b := va_up_ne _ _ hne
  have k2 : mAI (nwA M kd n) b = mAI M b := va_up_ne _ _ hne
  have k3 : mAJ (nwA M kd n) b = mAJ M b := va_up_ne _ _ hne
  have k4 : mAR (nwA M kd n) b = mAR M b := va_up_ne _ _ hne
  have k6 : mL (nwA M kd n) b = mL M b := va_up_ne _ _ hne
  have k5 : ∀ c, fV ad (nwA M kd n) c b = fV ad M c b := fun c => rfl
  unfold cE
  rw [k1, k5, k2, k3, k4, k6]
/-- a step that makes a cell of n slots -/
theorem T.mk {pc' n : Nat} {rest : List Value} {M2 : Mem} (k : T h d pc' lv (.ref (mN M) :: rest) M2 Q) (hE : mE M M2) (hn : mN M2 = mN M + 1) (hs : mS M2 = mS M + n) (hold : ∀ (cy : Nat → ClassId) (ad : Nat → Nat) (b : Nat), b < mN M → cE cy ad M2 b = cE cy ad M b)
    (step : ∀ (p : Program) (l : Launch) (e : Env) (R : Room) (s : State) (m : MethodId) (args : Array Value) (below : List Frame) (meth : Method) (c : Code) (D : va_G) (cy : Nat → ClassId) (ad : Nat → Nat) (A : Nat → Prop) (H : Heap) (locs : List Loc) (cells slots : Nat) (Q : State → Prop) (ls : Array Slot), p.tables.exec = Jvm.exec → c.code = d.2.1 → s.vm.findClass d.1.cls = some m.cls → (∀ w ∈ TB, w.before args s = true) → va_K D vwCl (mT cy) s → va_P D vwCl (mW cy ad M) H → va_D A (mW cy ad M) → va_S A s.heap H locs → (∀ q, s.heap.size ≤ q → A q) → cells + 1 ≤ R.cells → slots + n ≤ R.slots →
      (∀ (q : Nat) (H1 : Heap), va_P D vwCl (mW cy ad M ++ [(q, cE cy ad M2 (mN M))]) H1 → va_D A (mW cy ad M ++ [(q, cE cy ad M2 (mN M))]) → va_S A s.heap H1 locs → W p l e R s m args below meth c H1 locs (cells + 1) (slots + n) Q (F0 m pc' ls (.ref q :: rest.map (cv ad)))) → W p l e R s m args below meth c H locs cells slots Q (F0 m pc ls (st.map (cv ad)))) : T h d pc lv st M Q := by
  obtain ⟨r, M', hv, hq⟩ := k
  refine ⟨r, M', ⟨hE.tr hv.1, fun hb p l e s m args below meth c D cy A M0 ba sp H locs ls X h1 hP hD hS hl => ?_⟩, hq⟩
  have g1 := hv.1.1
  have g2 := hv.1.2.1
  rw [hn] at g1
  rw [hs] at g2
  refine step p l e _ s m args below meth c D cy (adf ba sp) A H locs _ _ _ ls X.1 X.2.1 X.2.2.2.1 X.2.2.2.2.2.2.2.1 X.2.2.2.2.2.2.2.2.1 hP hD hS X.2.2.2.2.2.2.2.2.2.1 (by show _ ≤ mN M' - mN M0; omega) (by show _ ≤ mS M' - mS M0; omega) (fun q H1 hP1 hD1 hS1 => ?_)
  refine W.bound (fun hz => ?_)
  have hsz := X.2.2.2.2.2.2.2.2.2.2.1
  have hqq : q = adf ba sp (mN M) := next_at (by omega) X.2.2.2.2.2.2.2.2.2.2.2.2.1 hP1 hD1 (by omega)
  subst hqq
  have e1 := mW_push (cy := cy) (ad := adf ba sp) (ad2 := adf ba sp) hn (fun b hb2 => ⟨rfl, hold cy (adf ba sp) b hb2⟩)
  rw [e1] at hP1 hD1
  have w := hv.2 hb p l e s m args below meth c D cy A M0 ba sp H1 locs ls X ⟨by omega, by omega⟩ hP1 hD1 hS1 hl
  rw [hn, hs, show mN M + 1 - mN M0 = mN M - mN M0 + 1 by omega, show mS M + n - mS M0 = mS M - mS M0 + n by omega] at w
  exact w
def noF (t : FieldType) : Bool := match t with
  | .float => false
  | .double => false
  | _ => true
/-- what is asked of the tables to make an object of class ci by entry idx -/
def nl (d : MD) (idx ci : Nat) : Prop := clOK ci ∧ ci < 20 ∧ Cond.classLink d.1.cls idx (cls ci).1 ∈ TB ∧ Cond.instantiable (cls ci).1 (cls ci).2.2 ∈ TB ∧ Cond.initialized (cls ci).1 ∈ TB ∧ ∀ k, k < (cls ci).2.2 → noF (tyC ci k) = true
theorem xt_new {idx ci : Nat} (hd : decode d.2.1 pc = .ok (.new idx, 3)) (hc : nl d idx ci) (kk : T h d (pc + 3) lv (.ref (mN M) :: st) (nwO M ci (cls ci).2.2) Q) : T h d pc lv st M Q :=
  kk.mk (n := (cls ci).2.2) mE_nwO rfl rfl (fun cy ad b hb => cE_nwO_old hb) (fun p l e R s m args below meth c D cy ad A H locs cells slots Q ls hx hb hw hts hK hP hD hS hA hcl hsl w => by
    have k1 : mK (nwO M ci (cls ci).2.2) (mN M) = ci := va_up_self _ _ _
    have e1 : cE cy ad (nwO M ci (cls ci).2.2) (mN M) = .inr (ci, (List.range (cls ci).2.2).map (fV ad (nwO M ci (cls ci).2.2) ci (mN M))) := cE_obj k1 hc.2.1
    refine va_new (C := (cls ci).1) (T := (cls ci).2.1) (N := (cls ci).2.2) hx hb hts hc.1.2.2.2 (tyC ci) hc.1.2.1 hw (hts _ hc.2.2.1) (hts _ hc.2.2.2.1) (hts _ hc.2.2.2.2.1) hK hP hD hS hA hc.1.1 (fs := (List.range (cls ci).2.2).map (fV ad (nwO M ci (cls ci).2.2) ci (mN M))) (fun j hj => ?_) hcl hsl hd (fun q H1 hP1 hD1 hS1 => ?_)
    · have e2 : vp_V ((List.range (cls ci).2.2).map (fV ad (nwO M ci (cls ci).2.2) ci (mN M))) j = fV ad (nwO M ci (cls ci).2.2) ci (mN M) j := by
        unfold vp_V; rw [List.getD_eq_getElem?_getD, rg_at hj]; rfl
      rw [e2]
      have k2 : mI (nwO M ci (cls ci).2.2) (mN M) = fun _ => 0 := va_up_self _ _ _
      have k3 : mJ (nwO M ci (cls ci).2.2) (mN M) = fun _ => 0 := va_up_self _ _ _
      have k4 : mR (nwO M ci (cls ci).2.2) (mN M) = fun _ => none := va_up_self _ _ _
      unfold fV ftX
      rw [hc.1.2.1 j hj, k2, k3, k4]
      have hnf := hc.2.2.2.2.2 j hj
      cases hty : tyC ci j <;> rw [hty] at hnf <;> first | rfl | (simp [noF] at hnf; done)
    · rw [← e1] at hP1 hD1
      exact w q H1 hP1 hD1 hS1)
theorem ac_eq {s : State} {ty : FieldType} {c1 c2 : ClassId} (hn : ∀ C, ty ≠ .object C) (h1 : va_RA s c1 ty) (h2 : va_RA s c2 ty) : c1 = c2 := by
  cases ty with
  | object C => exact absurd rfl (hn C)
  | _ => exact Option.some.inj (h1.symm.trans h2)
/-- new arrays of numbers -/
theorem newa_any {n : Int32} {atype : ArrayType} {ty : FieldType} {kd N t0 : Nat} (hd : decode d.2.1 pc = .ok (.newarray atype, 2)) (hty : newarray.typeOf atype = ty) (hno : ∀ C, ty ≠ .object C) (hw : Cond.arrayClass ty ∈ TB) (ht0 : ∀ cy : Nat → ClassId, (mT cy)[t0]? = some (cy kd, ty)) (hn : ¬ n < 0) (hN : n.toNatClampNeg = N) (hby : N * componentBytes ty ≤ 536870912)
    (a0 : vp_A) (ha0 : ∀ cA : ClassId, vp_cell cA a0 = arrV cA N (fun _ => defaultValue ty)) (hcE : ∀ (cy : Nat → ClassId) (ad : Nat → Nat), cE cy ad (nwA M kd N) (mN M) = .inl (cy kd, a0))
    (kk : T h d (pc + 2) lv (.ref (mN M) :: st) (nwA M kd N) Q) : T h d pc lv (.int n :: st) M Q :=
  kk.mk (n := N) mE_nwA rfl rfl (fun cy ad b hb => cE_nwA_old hb) (fun p l e R s m args below meth c D cy ad A H locs cells slots Q ls hx hb hw2 hts hK hP hD hS hA hcl hsl w => by
    refine va_newa hx hb (by rw [hty]; exact hts _ hw) hty hK hP hD hS hA (a0 := a0) ha0 hn hN hby hcl hsl hd (fun q cA H1 hK1 hP1 hD1 hS1 => ?_)
    have g1 := (hK1.2 (mT cy).length (cA, ty) (by simp)).2
    have g2 := (hK.2 t0 _ (ht0 cy)).2
    have g3 : cA = cy kd := ac_eq hno g1 g2
    subst g3
    rw [← hcE cy ad] at hP1 hD1
    exact w q H1 hP1 hD1 hS1)
theorem cE_newI {cy : Nat → ClassId} {ad : Nat → Nat} {kd N : Nat} (h1 : ¬ kd < 20) (h2 : kd < 23) : cE cy ad (nwA M kd N) (mN M) = .inl (cy kd, N, .inl (fun _ => 0)) := by
  rw [cE_arrI (M := nwA M kd N) (a := mN M) (kd := kd) (va_up_self _ _ _) h1 h2]
  show Sum.inl (cy kd, va_up (mL M) (mN M) N (mN M), Sum.inl (va_up (mAI M) (mN M) (fun _ => 0) (mN M))) = _
  rw [va_up_self, va_up_self]
theorem cE_newJ {cy : Nat → ClassId} {ad : Nat → Nat} {N : Nat} : cE cy ad (nwA M 23 N) (mN M) = .inl (cy 23, N, .inr (.inl (fun _ => 0))) := by
  rw [cE_arrJ (M := nwA M 23 N) (a := mN M) (va_up_self _ _ _)]
  show Sum.inl (cy 23, va_up (mL M) (mN M) N (mN M), Sum.inr (Sum.inl (va_up (mAJ M) (mN M) (fun _ => 0) (mN M)))) = _
  rw [va_up_self, va_up_self]
theorem xt_newI {n : Int32} {N : Nat} (hd : decode d.2.1 pc = .ok (.newarray .int, 2)) (hw : Cond.arrayClass .int ∈ TB) (hn : ¬ n < 0) (hN : n.toNatClampNeg = N) (hby : N ≤ 100000000) (kk : T h d (pc + 2) lv (.ref (mN M) :: st) (nwA M 21 N) Q) : T h d pc lv (.int n :: st) M Q :=
  newa_any hd rfl (fun C q => by cases q) hw (t0 := 1) (fun cy => rfl) hn hN (by show N * 4 ≤ _; omega) (N, .inl (fun _ => 0)) (fun cA => rfl) (fun cy ad => cE_newI (by decide) (by decide)) kk
theorem xt_newB {n : Int32} {N : Nat} (hd : decode d.2.1 pc = .ok (.newarray .byte, 2)) (hw : Cond.arrayClass .byte ∈ TB) (hn : ¬ n < 0) (hN : n.toNatClampNeg = N) (hby : N ≤ 100000000) (kk : T h d (pc + 2) lv (.ref (mN M) :: st) (nwA M 20 N) Q) : T h d pc lv (.int n :: st) M Q :=
  newa_any hd rfl (fun C q => by cases q) hw (t0 := 0) (fun cy => rfl) hn hN (by show N * 1 ≤ _; omega) (N, .inl (fun _ => 0)) (fun cA => rfl) (fun cy ad => cE_newI (by decide) (by decide)) kk
theorem xt_newZ {n : Int32} {N : Nat} (hd : decode d.2.1 pc = .ok (.newarray .boolean, 2)) (hw : Cond.arrayClass .boolean ∈ TB) (hn : ¬ n < 0) (hN : n.toNatClampNeg = N) (hby : N ≤ 100000000) (kk : T h d (pc + 2) lv (.ref (mN M) :: st) (nwA M 22 N) Q) : T h d pc lv (.int n :: st) M Q :=
  newa_any hd rfl (fun C q => by cases q) hw (t0 := 2) (fun cy => rfl) hn hN (by show N * 1 ≤ _; omega) (N, .inl (fun _ => 0)) (fun cA => rfl) (fun cy ad => cE_newI (by decide) (by decide)) kk
theorem xt_newJ {n : Int32} {N : Nat} (hd : decode d.2.1 pc = .ok (.newarray .long, 2)) (hw : Cond.arrayClass .long ∈ TB) (hn : ¬ n < 0) (hN : n.toNatClampNeg = N) (hby : N ≤ 60000000) (kk : T h d (pc + 2) lv (.ref (mN M) :: st) (nwA M 23 N) Q) : T h d pc lv (.int n :: st) M Q :=
  newa_any hd rfl (fun C q => by cases q) hw (t0 := 3) (fun cy => rfl) hn hN (by show N * 8 ≤ _; omega) (N, .inr (.inl (fun _ => 0))) (fun cA => rfl) (fun cy ad => cE_newJ) kk
/-! the end of a method -/
theorem ret_any {r : Option Value} (hq : Q r M) (step : ∀ (p : Program) (l : Launch) (e : Env) (R : Room) (s : State) (m : MethodId) (args : Array Value) (below : List Frame) (meth : Method) (c : Code) (H : Heap) (locs : List Loc) (cells slots : Nat) (Qc : Array Value → State → Outcome → State → Prop) (A : Nat → Prop) (ad : Nat → Nat) (ls : Array Slot), p.tables.exec = Jvm.exec → c.code = d.2.1 → meth.sig.returnType = d.2.2.2.1 → meth.locks = false → (∀ t : State, t.heap = H → s.WarmedH t.vm → Qc args s (.returned (r.map (cv ad))) t) → (∀ q ∈ locs, A q.base) → W p l e R s m args below meth c H locs cells slots (MQ below Qc args s cells slots A) (F0 m pc ls (st.map (cv ad)))) : T h d pc lv st M Q :=
  ⟨r, M, ⟨mE.rf, fun hb p l e s m args below meth c D cy A M0 ba sp H locs ls X h1 hP hD hS hl => step p l e _ s m args below meth c H locs _ _ _ A (adf ba sp) ls X.1 X.2.1 X.2.2.2.2.1 X.2.2.2.2.2.1 (fun t ht hW => ⟨⟨rfl, by rw [ht]; exact hP, va_K.moved hW.alike X.2.2.2.2.2.2.2.2.1, hD⟩, hS.F ht⟩) hS.2.2⟩, hq⟩
theorem xt_ireturn {x : Int32} (hd : decode d.2.1 pc = .ok (.ireturn, 1)) (hr : d.2.2.2.1 = some .int) (hq : Q (some (.int x)) M) : T h d pc lv [.int x] M Q :=
  ret_any hq (fun p l e R s m args below meth c H locs cells slots Qc A ad ls hx hb hrt hlocks hqq hf => W.iret hx hb (hrt.trans hr) hqq hf hd hlocks)
theorem xt_zreturn {x : Int32} (hd : decode d.2.1 pc = .ok (.ireturn, 1)) (hr : d.2.2.2.1 = some .boolean) (hx1 : x = 0 ∨ x = 1) (hq : Q (some (.int x)) M) : T h d pc lv [.int x] M Q :=
  ret_any hq (fun p l e R s m args below meth c H locs cells slots Qc A ad ls hx hb hrt hlocks hqq hf => W.zret hx hb (hrt.trans hr) (by rcases hx1 with rfl | rfl <;> rfl) hqq hf hd hlocks)
theorem xt_lreturn {x : Int64} (hd : decode d.2.1 pc = .ok (.lreturn, 1)) (hr : d.2.2.2.1 = some .long) (hq : Q (some (.long x)) M) : T h d pc lv [.long x] M Q :=
  ret_any hq (fun p l e R s m args below meth c H locs cells slots Qc A ad ls hx hb hrt hlocks hqq hf => W.lret hx hb (hrt.trans hr) hqq hf hd hlocks)
theorem xt_return (hd : decode d.2.1 pc = .ok (.return_, 1)) (hr : d.2.2.2.1 = none) (hq : Q none M) : T h d pc lv [] M Q :=
  ret_any hq (fun p l e R s m args below meth c H locs cells slots Qc A ad ls hx hb hrt hlocks hqq hf => W.vret hx hb (hrt.trans hr) hqq hf hd hlocks)
theorem xt_areturn {a : Nat} {rt : FieldType} (hd : decode d.2.1 pc = .ok (.areturn, 1)) (hr : d.2.2.2.1 = some rt) (hrt : (∃ n, rt = .object n) ∨ ∃ t, rt = .array t) (hq : Q (some (.ref a)) M) : T h d pc lv [.ref a] M Q :=
  ret_any hq (fun p l e R s m args below meth c H locs cells slots Qc A ad ls hx hb hrt2 hlocks hqq hf => W.aret hx hb (hrt2.trans hr) hrt (Or.inr ⟨_, rfl⟩) hqq hf hd hlocks)
theorem xt_areturnN {rt : FieldType} (hd : decode d.2.1 pc = .ok (.areturn, 1)) (hr : d.2.2.2.1 = some rt) (hrt : (∃ n, rt = .object n) ∨ ∃ t, rt = .array t) (hq : Q (some .null) M) : T h d pc lv [.null] M Q :=
  ret_any hq (fun p l e R s m args below meth c H locs cells slots Qc A ad ls hx hb hrt2 hlocks hqq hf => W.aret hx hb (hrt2.trans hr) hrt (Or.inl rfl) hqq hf hd hlocks)
end CR
