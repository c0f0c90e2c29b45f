/-! rows of T that read and write the memory; the end of a method; a method's contract; calls -/
def tyC (ci k : Nat) : FieldType := (parseFieldDescriptor ((cls ci).2.1 k).2.2.1).getD .int
/-- what is known of a class of the list -/
def clOK (ci : Nat) : Prop := vwCl[ci]? = some (cls ci) ∧ (∀ k, k < (cls ci).2.2 → parseFieldDescriptor ((cls ci).2.1 k).2.2.1 = some (tyC ci k)) ∧ (∀ a, a < (cls ci).2.2 → ∀ b, b < (cls ci).2.2 → a ≠ b → ((cls ci).2.1 a).2.1 ≠ ((cls ci).2.1 b).2.1) ∧ ∀ w ∈ u_ws (cls ci).1 (cls ci).2.1 (cls ci).2.2, w ∈ TB
/-- the field k of class ci behind entry idx of the constants of d's class -/
def fl (d : MD) (idx ci k : Nat) : Prop := clOK ci ∧ ci < 20 ∧ k < (cls ci).2.2 ∧ Cond.fieldLink d.1.cls idx ((cls ci).2.1 k).1 ((cls ci).2.1 k).2.1 ((cls ci).2.1 k).2.2.1 ∈ TB
theorem cE_obj {cy : Nat → ClassId} {ad : Nat → Nat} {M : Mem} {a ci : Nat} (hk : mK M a = ci) (hc : ci < 20) : cE cy ad M a = .inr (ci, (List.range (cls ci).2.2).map (fV ad M ci a)) := by
  unfold cE; rw [hk, if_pos hc]
theorem rg_at {α : Type} {N k : Nat} {g : Nat → α} (h : k < N) : ((List.range N).map g)[k]? = some (g k) := by simp [h]
theorem rg_set {α : Type} {N k : Nat} {g g2 : Nat → α} {v : α} (hv : g2 k = v) (hg : ∀ j, j ≠ k → g2 j = g j) : ((List.range N).map g).set k v = (List.range N).map g2 := by
  apply List.ext_getElem?
  intro j
  by_cases hj : j < N
  · by_cases he : j = k
    · subst he
      rw [List.getElem?_set_self (by simp; exact hj), rg_at hj, hv]
    · rw [List.getElem?_set_ne (fun z => he z.symm), rg_at hj, rg_at hj, hg j he]
  · rw [List.getElem?_eq_none (by simp; omega), List.getElem?_eq_none (by simp; omega)]
theorem ftX_of {ci k : Nat} (h : clOK ci) (hk : k < (cls ci).2.2) : (tyC ci k = .long → ftX ci k = 1) ∧ (∀ n, tyC ci k = .object n → ftX ci k = 2) ∧ (∀ t, tyC ci k = .array t → ftX ci k = 2) ∧ (tyC ci k = .int → ftX ci k = 0) ∧ (tyC ci k = .boolean → ftX ci k = 0) := by
  have h1 := h.2.1 k hk
  unfold ftX
  rw [h1]
  refine ⟨fun q => ?_, fun n q => ?_, fun t q => ?_, fun q => ?_, fun q => ?_⟩ <;> rw [q]
section MR
variable {h : Nat} {d : MD} {pc : Nat} {lv : List (Nat × Value)} {st : List Value} {M : Mem} {Q : Option Value → Mem → Prop}
/-- a step that reads -/
theorem T.rd {pc' : Nat} {st' : List Value} (k : T h d pc' lv st' M Q)
    (step : ∀ (p : Program) (l : Launch) (e : Env) (R : Room) (s : State) (m : MethodId) (args : Array Value) (below : List Frame) (meth : Method) (c : Code) (D : va_G) (cy : Nat → ClassId) (ad : Nat → Nat) (H : Heap) (locs : List Loc) (cells slots : Nat) (Q : State → Prop) (ls : Array Slot), p.tables.exec = Jvm.exec → c.code = d.2.1 → s.vm.findClass d.1.cls = some m.cls → (∀ w ∈ TB, w.before args s = true) → va_K D vwCl (mT cy) s → va_P D vwCl (mW cy ad M) H →
      W p l e R s m args below meth c H locs cells slots Q (F0 m pc' ls (st'.map (cv ad))) → W p l e R s m args below meth c H locs cells slots Q (F0 m pc ls (st.map (cv ad)))) : T h d pc lv st M Q := by
  obtain ⟨r, M', hv, hq⟩ := k
  exact ⟨r, M', ⟨hv.1, fun hb p l e s m args below meth c D cy A M0 ba sp H locs ls X h1 hP hD hS hl => step p l e _ s m args below meth c D cy (adf ba sp) H locs _ _ _ ls X.1 X.2.1 X.2.2.2.1 X.2.2.2.2.2.2.2.1 X.2.2.2.2.2.2.2.2.1 hP (hv.2 hb p l e s m args below meth c D cy A M0 ba sp H locs ls X h1 hP hD hS hl)⟩, hq⟩
theorem xt_getI {a idx ci k : Nat} (hd : decode d.2.1 pc = .ok (.getfield idx, 3)) (hf : fl d idx ci k) (ht : ftX ci k = 0) (ha : a < mN M) (hk : mK M a = ci) (kk : T h d (pc + 3) lv (.int (mI M a k) :: st) M Q) : T h d pc lv (.ref a :: st) M Q :=
  kk.rd (fun p l e R s m args below meth c D cy ad H locs cells slots Q ls hx hb hw hts hK hP w => va_get (D := D) (C := (cls ci).1) (T := (cls ci).2.1) (N := (cls ci).2.2) hx hb hts hf.1.2.2.2 hw hK hP a ((mW_at ha).trans (by rw [cE_obj hk hf.2.1])) hf.1.1 k hf.2.2.1 (hts _ hf.2.2.2) (fun _ q => q) ((rg_at hf.2.2.1).trans (by rw [fV, if_pos ht]; rfl)) hd w)
theorem xt_getJ {a idx ci k : Nat} (hd : decode d.2.1 pc = .ok (.getfield idx, 3)) (hf : fl d idx ci k) (ht : ftX ci k = 1) (ha : a < mN M) (hk : mK M a = ci) (kk : T h d (pc + 3) lv (.long (mJ M a k) :: st) M Q) : T h d pc lv (.ref a :: st) M Q :=
  kk.rd (fun p l e R s m args below meth c D cy ad H locs cells slots Q ls hx hb hw hts hK hP w => va_get (D := D) (C := (cls ci).1) (T := (cls ci).2.1) (N := (cls ci).2.2) hx hb hts hf.1.2.2.2 hw hK hP a ((mW_at ha).trans (by rw [cE_obj hk hf.2.1])) hf.1.1 k hf.2.2.1 (hts _ hf.2.2.2) (fun _ q => q) ((rg_at hf.2.2.1).trans (by rw [fV, if_neg (by rw [ht]; decide), if_pos ht]; rfl)) hd w)
theorem xt_getR {a b idx ci k : Nat} (hd : decode d.2.1 pc = .ok (.getfield idx, 3)) (hf : fl d idx ci k) (ht : ftX ci k = 2) (ha : a < mN M) (hk : mK M a = ci) (hv : mR M a k = some b) (kk : T h d (pc + 3) lv (.ref b :: st) M Q) : T h d pc lv (.ref a :: st) M Q :=
  kk.rd (fun p l e R s m args below meth c D cy ad H locs cells slots Q ls hx hb hw hts hK hP w => va_get (D := D) (C := (cls ci).1) (T := (cls ci).2.1) (N := (cls ci).2.2) hx hb hts hf.1.2.2.2 hw hK hP a ((mW_at ha).trans (by rw [cE_obj hk hf.2.1])) hf.1.1 k hf.2.2.1 (hts _ hf.2.2.2) (fun _ q => q) ((rg_at hf.2.2.1).trans (by rw [fV, if_neg (by rw [ht]; decide), if_neg (by rw [ht]; decide), hv]; rfl)) hd w)
theorem xt_getN {a idx ci k : Nat} (hd : decode d.2.1 pc = .ok (.getfield idx, 3)) (hf : fl d idx ci k) (ht : ftX ci k = 2) (ha : a < mN M) (hk : mK M a = ci) (hv : mR M a k = none) (kk : T h d (pc + 3) lv (.null :: st) M Q) : T h d pc lv (.ref a :: st) M Q :=
  kk.rd (fun p l e R s m args below meth c D cy ad H locs cells slots Q ls hx hb hw hts hK hP w => va_get (D := D) (C := (cls ci).1) (T := (cls ci).2.1) (N := (cls ci).2.2) hx hb hts hf.1.2.2.2 hw hK hP a ((mW_at ha).trans (by rw [cE_obj hk hf.2.1])) hf.1.1 k hf.2.2.1 (hts _ hf.2.2.2) (fun _ q => q) ((rg_at hf.2.2.1).trans (by rw [fV, if_neg (by rw [ht]; decide), if_neg (by rw [ht]; decide), hv]; rfl)) hd w)
theorem cE_arrI {cy : Nat → ClassId} {ad : Nat → Nat} {M : Mem} {a kd : Nat} (hk : mK M a = kd) (h1 : ¬ kd < 20) (h2 : kd < 23) : cE cy ad M a = .inl (cy kd, mL M a, .inl (mAI M a)) := by
  unfold cE; rw [hk, if_neg h1, if_pos h2]
theorem cE_arrJ {cy : Nat → ClassId} {ad : Nat → Nat} {M : Mem} {a : Nat} (hk : mK M a = 23) : cE cy ad M a = .inl (cy 23, mL M a, .inr (.inl (mAJ M a))) := by
  unfold cE; rw [hk]; rfl
theorem cE_arrR {cy : Nat → ClassId} {ad : Nat → Nat} {M : Mem} {a kd : Nat} (hk : mK M a = kd) (h1 : 24 ≤ kd) : cE cy ad M a = .inl (cy kd, mL M a, .inr (.inr (.inr (.inr (fun i => (mAR M a i).map ad))))) := by
  unfold cE; rw [hk, if_neg (by omega), if_neg (by omega), if_neg (by omega)]
theorem xt_iald {a : Nat} {i : Int32} (hd : decode d.2.1 pc = .ok (.iaload, 1)) (ha : a < mN M) (hk : mK M a = 21) (hi : vp_in i (mL M a)) (kk : T h d (pc + 1) lv (.int (mAI M a i.toNatClampNeg) :: st) M Q) : T h d pc lv (.int i :: .ref a :: st) M Q :=
  kk.rd (fun p l e R s m args below meth c D cy ad H locs cells slots Q ls hx hb hw hts hK hP w => va_iald hx hb hK hP a 1 ((mW_at ha).trans (by rw [cE_arrI hk (by decide) (by decide)])) rfl hi hd w)
theorem xt_bald {a : Nat} {i : Int32} (hd : decode d.2.1 pc = .ok (.baload, 1)) (ha : a < mN M) (hk : mK M a = 20) (hi : vp_in i (mL M a)) (kk : T h d (pc + 1) lv (.int (mAI M a i.toNatClampNeg) :: st) M Q) : T h d pc lv (.int i :: .ref a :: st) M Q :=
  kk.rd (fun p l e R s m args below meth c D cy ad H locs cells slots Q ls hx hb hw hts hK hP w => va_bald hx hb hK hP a 0 ((mW_at ha).trans (by rw [cE_arrI hk (by decide) (by decide)])) rfl hi hd w)
theorem xt_zald {a : Nat} {i : Int32} (hd : decode d.2.1 pc = .ok (.baload, 1)) (ha : a < mN M) (hk : mK M a = 22) (hi : vp_in i (mL M a)) (kk : T h d (pc + 1) lv (.int (mAI M a i.toNatClampNeg) :: st) M Q) : T h d pc lv (.int i :: .ref a :: st) M Q :=
  kk.rd (fun p l e R s m args below meth c D cy ad H locs cells slots Q ls hx hb hw hts hK hP w => va_zald hx hb hK hP a 2 ((mW_at ha).trans (by rw [cE_arrI hk (by decide) (by decide)])) rfl hi hd w)
theorem xt_lald {a : Nat} {i : Int32} (hd : decode d.2.1 pc = .ok (.laload, 1)) (ha : a < mN M) (hk : mK M a = 23) (hi : vp_in i (mL M a)) (kk : T h d (pc + 1) lv (.long (mAJ M a i.toNatClampNeg) :: st) M Q) : T h d pc lv (.int i :: .ref a :: st) M Q :=
  kk.rd (fun p l e R s m args below meth c D cy ad H locs cells slots Q ls hx hb hw hts hK hP w => va_lald hx hb hK hP a 3 ((mW_at ha).trans (by rw [cE_arrJ hk])) rfl hi hd w)
theorem xt_alen {a : Nat} (hd : decode d.2.1 pc = .ok (.arraylength, 1)) (ha : a < mN M) (hk : mK M a = 20 ∨ mK M a = 21 ∨ mK M a = 22 ∨ mK M a = 23 ∨ mK M a = 24 ∨ mK M a = 25) (kk : T h d (pc + 1) lv (.int (Int32.ofNat (mL M a)) :: st) M Q) : T h d pc lv (.ref a :: st) M Q :=
  kk.rd (fun p l e R s m args below meth c D cy ad H locs cells slots Q ls hx hb hw hts hK hP w => by
    rcases hk with q | q | q | q | q | q
    · exact va_alen hx hb hK hP a 0 (x := (mL M a, .inl (mAI M a))) (v := Int32.ofNat (mL M a)) ((mW_at ha).trans (by rw [cE_arrI q (by decide) (by decide)])) rfl rfl hd w
    · exact va_alen hx hb hK hP a 1 (x := (mL M a, .inl (mAI M a))) (v := Int32.ofNat (mL M a)) ((mW_at ha).trans (by rw [cE_arrI q (by decide) (by decide)])) rfl rfl hd w
    · exact va_alen hx hb hK hP a 2 (x := (mL M a, .inl (mAI M a))) (v := Int32.ofNat (mL M a)) ((mW_at ha).trans (by rw [cE_arrI q (by decide) (by decide)])) rfl rfl hd w
    · exact va_alen hx hb hK hP a 3 (x := (mL M a, .inr (.inl (mAJ M a)))) (v := Int32.ofNat (mL M a)) ((mW_at ha).trans (by rw [cE_arrJ q])) rfl rfl hd w
    · exact va_alen hx hb hK hP a 4 (x := (mL M a, .inr (.inr (.inr (.inr (fun i => (mAR M a i).map ad)))))) (v := Int32.ofNat (mL M a)) ((mW_at ha).trans (by rw [cE_arrR q (by decide)])) rfl rfl hd w
    · exact va_alen hx hb hK hP a 5 (x := (mL M a, .inr (.inr (.inr (.inr (fun i => (mAR M a i).map ad)))))) (v := Int32.ofNat (mL M a)) ((mW_at ha).trans (by rw [cE_arrR q (by decide)])) rfl rfl hd w)
theorem xt_aald {a : Nat} {i : Int32} {b : Nat} (hd : decode d.2.1 pc = .ok (.aaload, 1)) (ha : a < mN M) (hk : mK M a = 24) (hi : vp_in i (mL M a)) (hv : mAR M a i.toNatClampNeg = some b) (kk : T h d (pc + 1) lv (.ref b :: st) M Q) : T h d pc lv (.int i :: .ref a :: st) M Q :=
  kk.rd (fun p l e R s m args below meth c D cy ad H locs cells slots Q ls hx hb hw hts hK hP w => va_aldq hx hb hK hP a 4 ((mW_at ha).trans (by rw [cE_arrR hk (by decide)])) rfl hi hd (by rw [hv]; exact w))
/-- a step that writes: no cell comes -/
theorem T.wr {pc' : Nat} {st' : List Value} {M2 : Mem} (k : T h d pc' lv st' M2 Q) (hn : mN M2 = mN M) (hs : mS M2 = mS M) (hkl : ∀ a, a < mN M → mK M2 a = mK M a ∧ mL M2 a = mL M a)
    (step : ∀ (p : Program) (l : Launch) (e : Env) (R : Room) (s : State) (m : MethodId) (args : Array Value) (below : List Frame) (meth : Method) (c : Code) (D : va_G) (cy : Nat → ClassId) (ad : Nat → Nat) (A : Nat → Prop) (H : Heap) (locs : List Loc) (cells slots : Nat) (Q : State → Prop) (ls : Array Slot), p.tables.exec = Jvm.exec → c.code = d.2.1 → s.vm.findClass d.1.cls = some m.cls → meth.name = d.1.name → (∀ w ∈ TB, w.before args s = true) → va_K D vwCl (mT cy) s → va_P D vwCl (mW cy ad M) H → va_D A (mW cy ad M) → va_S A s.heap H locs →
      (∀ (H1 : Heap) (locs1 : List Loc), va_P D vwCl (mW cy ad M2) H1 → va_D A (mW cy ad M2) → va_S A s.heap H1 locs1 → W p l e R s m args below meth c H1 locs1 cells slots Q (F0 m pc' ls (st'.map (cv ad)))) → W p l e R s m args below meth c H locs cells slots Q (F0 m pc ls (st.map (cv ad)))) : T h d pc lv st M Q := by
  obtain ⟨r, M', hv, hq⟩ := k
  refine ⟨r, M', ⟨⟨hn ▸ hv.1.1, hs ▸ hv.1.2.1, fun a ha => ?_⟩, fun hb p l e s m args below meth c D cy A M0 ba sp H locs ls X h1 hP hD hS hl => ?_⟩, hq⟩
  · exact ⟨(hv.1.2.2 a (hn ▸ ha)).1.trans (hkl a ha).1, (hv.1.2.2 a (hn ▸ ha)).2.trans (hkl a ha).2⟩
  · refine step p l e _ s m args below meth c D cy (adf ba sp) A H locs _ _ _ ls X.1 X.2.1 X.2.2.2.1 X.2.2.2.2.2.2.1 X.2.2.2.2.2.2.2.1 X.2.2.2.2.2.2.2.2.1 hP hD hS (fun H1 locs1 hP1 hD1 hS1 => ?_)
    have w := hv.2 hb p l e s m args below meth c D cy A M0 ba sp H1 locs1 ls X ⟨hn ▸ h1.1, hs ▸ h1.2⟩ hP1 hD1 hS1 hl
    rw [hn, hs] at w
    exact w
/-- where a final field may be put: its own class's constructor -/
def pf (d : MD) (ci k : Nat) : Bool := !((cls ci).2.1 k).2.2.2 || (d.1.name == "<init>" && ((cls ci).2.1 k).1 == d.1.cls)
theorem put_any {M2 : Mem} {a idx ci k : Nat} {v : Value} (hd : decode d.2.1 pc = .ok (.putfield idx, 3)) (hf : fl d idx ci k) (hp : pf d ci k = true) (ha : a < mN M) (hk : mK M a = ci)
    (hty : ∀ ad : Nat → Nat, narrow (tyC ci k) (cv ad v) = cv ad v ∧ fits (tyC ci k) (cv ad v) = true) (hn : mN M2 = mN M) (hs : mS M2 = mS M) (hkl : ∀ b, mK M2 b = mK M b ∧ mL M2 b = mL M b)
    (hself : ∀ ad : Nat → Nat, fV ad M2 ci a k = cv ad v ∧ ∀ j, j ≠ k → fV ad M2 ci a j = fV ad M ci a j) (hoth : ∀ (cy : Nat → ClassId) (ad : Nat → Nat) (b : Nat), b ≠ a → cE cy ad M2 b = cE cy ad M b)
    (kk : T h d (pc + 3) lv st M2 Q) : T h d pc lv (v :: .ref a :: st) M Q :=
  kk.wr hn hs (fun b _ => hkl b) (fun p l e R s m args below meth c D cy ad A H locs cells slots Q ls hx hb hw hin hts hK hP hD hS w => by
    have e1 : (mW cy ad M)[a]? = some (ad a, .inr (ci, (List.range (cls ci).2.2).map (fV ad M ci a))) := (mW_at ha).trans (by rw [cE_obj hk hf.2.1])
    have e2 : (mW cy ad M).set a (ad a, .inr (ci, ((List.range (cls ci).2.2).map (fV ad M ci a)).set k (cv ad v))) = mW cy ad M2 := by
      rw [rg_set (hself ad).1 (hself ad).2, ← mW_set hn (fun b _ hb2 => hoth cy ad b hb2), cE_obj ((hkl a).1.trans hk) hf.2.1]
    have hl : k < ((List.range (cls ci).2.2).map (fV ad M ci a)).length := by simp; exact hf.2.2.1
    by_cases hfin : ((cls ci).2.1 k).2.2.2 = true
    · have hp2 : d.1.name = "<init>" ∧ ((cls ci).2.1 k).1 = d.1.cls := by
        unfold pf at hp; rw [hfin] at hp; simpa using hp
      refine va_putF (D := D) (C := (cls ci).1) (T := (cls ci).2.1) (N := (cls ci).2.2) hx hb hts hf.1.2.2.2 (tyC ci) hf.1.2.1 hf.1.2.2.1 hw hK hP hD hS a e1 hf.1.1 k hf.2.2.1 (hts _ hf.2.2.2) (fun _ q => q) hfin (hin.trans hp2.1) hp2.2 (hf.1.2.1 k hf.2.2.1) (hty ad).1 (hty ad).2 hl hd (fun H1 locs1 hP1 hD1 hS1 => ?_)
      rw [e2] at hP1 hD1
      exact w H1 locs1 hP1 hD1 hS1
    · refine va_put (D := D) (C := (cls ci).1) (T := (cls ci).2.1) (N := (cls ci).2.2) hx hb hts hf.1.2.2.2 (tyC ci) hf.1.2.1 hf.1.2.2.1 hw hK hP hD hS a e1 hf.1.1 k hf.2.2.1 (hts _ hf.2.2.2) (fun _ q => q) (by simpa using hfin) (hf.1.2.1 k hf.2.2.1) (hty ad).1 (hty ad).2 hl hd (fun H1 locs1 hP1 hD1 hS1 => ?_)
      rw [e2] at hP1 hD1
      exact w H1 locs1 hP1 hD1 hS1)
theorem up2_ne {α : Type} {f : Nat → Nat → α} {a k b j : Nat} {v : α} (h : ¬ (b = a ∧ j = k)) : up2 f a k v b j = f b j := if_neg h
theorem up2_eq {α : Type} {f : Nat → Nat → α} {a k : Nat} {v : α} : up2 f a k v a k = v := if_pos ⟨rfl, rfl⟩
theorem up2_row {α : Type} {f : Nat → Nat → α} {a k b : Nat} {v : α} (h : b ≠ a) : up2 f a k v b = f b := by funext j; exact up2_ne (fun q => h q.1)
theorem xt_putI {a idx ci k : Nat} {v : Int32} (hd : decode d.2.1 pc = .ok (.putfield idx, 3)) (hf : fl d idx ci k) (ht : tyC ci k = .int) (hp : pf d ci k = true) (ha : a < mN M) (hk : mK M a = ci) (kk : T h d (pc + 3) lv st (wI M a k v) Q) : T h d pc lv (.int v :: .ref a :: st) M Q :=
  put_any (M2 := wI M a k v) hd hf hp ha hk (fun ad => by rw [ht]; exact ⟨rfl, rfl⟩) rfl rfl (fun b => ⟨rfl, rfl⟩)
    (fun ad => ⟨by rw [fV, if_pos ((ftX_of hf.1 hf.2.2.1).2.2.2.1 ht)]; show Value.int (up2 (mI M) a k v a k) = _; rw [up2_eq]; rfl, fun j hj => by unfold fV; show (if _ then Value.int (up2 (mI M) a k v a j) else _) = _; rw [up2_ne (fun q => hj q.2)]; rfl⟩)
    (fun cy ad b hb => by unfold cE; show (if mK M b < 20 then _ else _) = _; have e : fV ad (wI M a k v) (mK M b) b = fV ad M (mK M b) b := by { funext j; unfold fV; show (if _ then Value.int (up2 (mI M) a k v b j) else _) = _; rw [up2_row hb]; rfl }; rw [show mK (wI M a k v) b = mK M b from rfl, e]; rfl) kk
theorem xt_putZ {a idx ci k : Nat} {v : Int32} (hd : decode d.2.1 pc = .ok (.putfield idx, 3)) (hf : fl d idx ci k) (ht : tyC ci k = .boolean) (hp : pf d ci k = true) (ha : a < mN M) (hk : mK M a = ci) (hv : v = 0 ∨ v = 1) (kk : T h d (pc + 3) lv st (wI M a k v) Q) : T h d pc lv (.int v :: .ref a :: st) M Q :=
  put_any (M2 := wI M a k v) hd hf hp ha hk (fun ad => by rw [ht]; rcases hv with rfl | rfl <;> exact ⟨rfl, rfl⟩) rfl rfl (fun b => ⟨rfl, rfl⟩)
    (fun ad => ⟨by rw [fV, if_pos ((ftX_of hf.1 hf.2.2.1).2.2.2.2 ht)]; show Value.int (up2 (mI M) a k v a k) = _; rw [up2_eq]; rfl, fun j hj => by unfold fV; show (if _ then Value.int (up2 (mI M) a k v a j) else _) = _; rw [up2_ne (fun q => hj q.2)]; rfl⟩)
    (fun cy ad b hb => by unfold cE; show (if mK M b < 20 then _ else _) = _; have e : fV ad (wI M a k v) (mK M b) b = fV ad M (mK M b) b := by { funext j; unfold fV; show (if _ then Value.int (up2 (mI M) a k v b j) else _) = _; rw [up2_row hb]; rfl }; rw [show mK (wI M a k v) b = mK M b from rfl, e]; rfl) kk
theorem xt_putJ {a idx ci k : Nat} {v : Int64} (hd : decode d.2.1 pc = .ok (.putfield idx, 3)) (hf : fl d idx ci k) (ht : tyC ci k = .long) (hp : pf d ci k = true) (ha : a < mN M) (hk : mK M a = ci) (kk : T h d (pc + 3) lv st (wJ M a k v) Q) : T h d pc lv (.long v :: .ref a :: st) M Q :=
  put_any (M2 := wJ M a k v) hd hf hp ha hk (fun ad => by rw [ht]; exact ⟨rfl, rfl⟩) rfl rfl (fun b => ⟨rfl, rfl⟩)
    (fun ad => ⟨by rw [fV, if_neg (by rw [(ftX_of hf.1 hf.2.2.1).1 ht]; decide), if_pos ((ftX_of hf.1 hf.2.2.1).1 ht)]; show Value.long (up2 (mJ M) a k v a k) = _; rw [up2_eq]; rfl, fun j hj => by unfold fV; show (if _ then _ else if _ then Value.long (up2 (mJ M) a k v a j) else _) = _; rw [up2_ne (fun q => hj q.2)]; rfl⟩)
    (fun cy ad b hb => by unfold cE; show (if mK M b < 20 then _ else _) = _; have e : fV ad (wJ M a k v) (mK M b) b = fV ad M (mK M b) b := by { funext j; unfold fV; show (if _ then _ else if _ then Value.long (up2 (mJ M) a k v b j) else _) = _; rw [up2_row hb]; rfl }; rw [show mK (wJ M a k v) b = mK M b from rfl, e]; rfl) kk
theorem put_R {a idx ci k : Nat} {o : Option Nat} (hd : decode d.2.1 pc = .ok (.putfield idx, 3)) (hf : fl d idx ci k) (ht : ftX ci k = 2) (hp : pf d ci k = true) (ha : a < mN M) (hk : mK M a = ci) (kk : T h d (pc + 3) lv st (wR M a k o) Q) : T h d pc lv (va_rf o :: .ref a :: st) M Q := by
  have hty : (∃ n, tyC ci k = .object n) ∨ ∃ t, tyC ci k = .array t := by
    have h1 := hf.1.2.1 k hf.2.2.1
    unfold ftX at ht
    rw [h1] at ht
    cases hc : tyC ci k <;> rw [hc] at ht <;> first | exact Or.inl ⟨_, rfl⟩ | exact Or.inr ⟨_, rfl⟩ | (simp at ht; done)
  refine put_any (M2 := wR M a k o) hd hf hp ha hk (fun ad => ?_) rfl rfl (fun b => ⟨rfl, rfl⟩)
    (fun ad => ⟨?_, fun j hj => by unfold fV; show (if _ then _ else if _ then _ else va_rf ((up2 (mR M) a k o a j).map ad)) = _; rw [up2_ne (fun q => hj q.2)]; rfl⟩)
    (fun cy ad b hb => by unfold cE; show (if mK M b < 20 then _ else _) = _; have e : fV ad (wR M a k o) (mK M b) b = fV ad M (mK M b) b := by { funext j; unfold fV; show (if _ then _ else if _ then _ else va_rf ((up2 (mR M) a k o b j).map ad)) = _; rw [up2_row hb]; rfl }; rw [show mK (wR M a k o) b = mK M b from rfl, e]; rfl) kk
  · rcases hty with ⟨n, q⟩ | ⟨t, q⟩ <;> rw [q] <;> cases o <;> exact ⟨rfl, rfl⟩
  · rw [fV, if_neg (by rw [ht]; decide), if_neg (by rw [ht]; decide)]
    show va_rf ((up2 (mR M) a k o a k).map ad) = _
    rw [up2_eq]
    cases o <;> rfl
theorem xt_putR {a b idx ci k : Nat} (hd : decode d.2.1 pc = .ok (.putfield idx, 3)) (hf : fl d idx ci k) (ht : ftX ci k = 2) (hp : pf d ci k = true) (ha : a < mN M) (hk : mK M a = ci) (kk : T h d (pc + 3) lv st (wR M a k (some b)) Q) : T h d pc lv (.ref b :: .ref a :: st) M Q := put_R (o := some b) hd hf ht hp ha hk kk
theorem xt_putN {a idx ci k : Nat} (hd : decode d.2.1 pc = .ok (.putfield idx, 3)) (hf : fl d idx ci k) (ht : ftX ci k = 2) (hp : pf d ci k = true) (ha : a < mN M) (hk : mK M a = ci) (kk : T h d (pc + 3) lv st (wR M a k none) Q) : T h d pc lv (.null :: .ref a :: st) M Q := put_R (o := none) hd hf ht hp ha hk kk
end MR
