/-! 'multianewarray' of two dimensions over a heap: the library's row for it, in the kit's form -/
section GR0
variable {p : Program} {l : Launch} {e : Env} {R : Room} {s : State} {m : MethodId} {args : Array Value} {below : List Frame} {meth : Method} {c : Code} {H : Heap} {locs : List Loc} {cells slots : Nat} {Q : State → Prop}
theorem arrV_of {cl cl2 : Cell} {cI : ClassId} {N : Nat} {f g : Nat → Value} (h : cl = arrV cI N g) (hf : ∀ j, j < N → g j = f j) : cl = arrV cI N f := by
  rw [h]
  unfold arrV
  congr 1
  apply Array.ext
  · simp
  · intro i h1 h2
    simp only [Array.getElem_ofFn]
    exact hf i (by simpa using h1)
theorem outer_arr (cA : ClassId) (N h0 : Nat) : ∀ i, Jvm.Free.Multi.outerC cA N h0 i = arrV cA N (fun j => if j < i then .ref (h0 + 1 + j) else .null)
  | 0 => by
    show ({ cls := cA, slots := Array.replicate N .null, vm := .none } : Cell) = _
    rw [arrV_new]
    exact arrV_of (cl2 := arrV cA N (fun _ => .null)) rfl (fun j _ => by rw [if_neg (Nat.not_lt_zero _)])
  | i + 1 => by
    show (Jvm.Free.Multi.outerC cA N h0 i).setSlot i (.ref (h0 + 1 + i)) = _
    rw [outer_arr cA N h0 i, arrV_store]
    refine arrV_of (cl2 := arrV cA N (fun _ => .null)) rfl (fun j _ => ?_)
    unfold updV
    by_cases z : j = i
    · rw [if_pos z, if_pos (by omega), z]
    · rw [if_neg z]
      by_cases y : j < i
      · show (if j < i then Value.ref (h0 + 1 + j) else Value.null) = _
        rw [if_pos y, if_pos (by omega)]
      · show (if j < i then Value.ref (h0 + 1 + j) else Value.null) = _
        rw [if_neg y, if_neg (by omega)]
theorem W.mul2 {cc : ByteArray} (hexec : p.tables.exec = Jvm.exec) (hb : c.code = cc) {own : String} {index : Nat} (hown : s.vm.findClass own = some m.cls) (hclink : (Cond.classLink own index "[[I").before args s = true) (hover : (Cond.arrayOver (.array .int)).before args s = true) (harr : (Cond.arrayClass .int).before args s = true)
    {g : JFrame} (hg : g.method = m) (hdg : decode cc g.pc = .ok (.multianewarray index 2, 4)) {n k : Int32} {N K : Nat} {rest : List Value} (hstack : g.stack = .int k :: .int n :: rest) (hn : ¬ n < 0) (hk : ¬ k < 0) (hN : n.toNatClampNeg = N) (hK : k.toNatClampNeg = K) (hb1 : N ≤ 1000) (hb2 : K ≤ 1000)
    (hcells : cells + (1 + N) ≤ R.cells) (hslots : slots + (N + N * K) ≤ R.slots) {h : Nat} (hh : H.size = h)
    (kk : ∀ (H' : Heap) (cA comp : ClassId), s.vm.findClass "[[I" = some cA → s.vm.findClass "[I" = some comp → H'.size = h + 1 + N → (∀ q, q < h → H'[q]? = H[q]?) → H'[h]? = some (arrV cA N (fun j => .ref (h + 1 + j))) → (∀ j, j < N → H'[h + 1 + j]? = some (arrV comp K (fun _ => .int 0))) →
      W p l e R s m args below meth c H' locs (cells + 1 + N) (slots + N + N * K) Q { g with pc := g.pc + 4, stack := .ref h :: rest }) : W p l e R s m args below meth c H locs cells slots Q g := by
  subst hN; subst hK; subst hh; subst hb
  intro T hT X
  subst hT
  obtain ⟨vm₁, cA, comp, hW1, hfA, hfC, hO, hI, X1, step⟩ := Jvm.Stand.multianewarray2F X hexec (own := own) (index := index) (ty := .int) hown hclink hover harr hg hdg hstack hn hk (by omega) (by show k.toNatClampNeg * 4 ≤ _; omega) (by omega) rfl rfl hcells hslots
  obtain ⟨f1, f2, f3, f4⟩ := Jvm.Free.Multi.fill_facts (T.setVm vm₁) cA comp n.toNatClampNeg k.toNatClampNeg (defaultValue .int) n.toNatClampNeg
  have fo := fun (a : Addr) (ha : a < T.heap.size) => Jvm.Free.Multi.fill_old (T.setVm vm₁) cA comp n.toNatClampNeg k.toNatClampNeg (defaultValue .int) (a := a) ha n.toNatClampNeg
  have fi := fun (j : Nat) (hj : j < n.toNatClampNeg) => Jvm.Free.Multi.fill_inner (T.setVm vm₁) cA comp n.toNatClampNeg k.toNatClampNeg (defaultValue .int) n.toNatClampNeg j hj
  obtain ⟨o1, o2, o3⟩ := Jvm.Free.Multi.outerC_facts cA n.toNatClampNeg T.heap.size n.toNatClampNeg
  have os := fun (j : Nat) (hj : j < n.toNatClampNeg) => Jvm.Free.Multi.outerC_slot cA n.toNatClampNeg T.heap.size n.toNatClampNeg j hj
  obtain ⟨t, a1, b1⟩ := kk _ cA comp hfA hfC f1 fo (f2.trans (congrArg some ((outer_arr cA _ _ _).trans (arrV_of (cl2 := arrV cA 0 (fun _ => .null)) rfl (fun j hj => if_pos hj))))) (fun j hj => (fi j hj).trans (congrArg some (arrV_new comp _ _))) _ rfl X1
  exact ⟨t, step t a1, b1⟩
end GR0
